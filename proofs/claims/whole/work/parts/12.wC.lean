theorem hy_X9_thrown : yX9_thrown.cls ≠ "java/lang/invoke/MethodHandle" ∧ yX9_thrown.cls ≠ "java/lang/invoke/VarHandle" ∧ (parseMethodDescriptor yX9_thrown.desc).map (fun d => d.parameters.length) = some 0 := by decide +kernel
def wp_X9_thrown (w : Wd) (Post : Int32 → Wd → Prop) : Prop :=
  Post (gI w 15 0) w
set_option maxHeartbeats 4000000 in
set_option maxRecDepth 100000 in
theorem mt_X9_thrown (l : Launch) {E : En} (hI : Inj E) (hF : ∀ o, (15 ≤ o ∧ o < 25) → o ∈ eL E) (w : Wd) {Post : Int32 → Wd → Prop} (h : wp_X9_thrown w Post) : MI l E yX9_thrown cX9_thrown 1 (some .int) 0 0 [.ref (eA E 15)] w Post := by
  refine MG.intro hI (by decide +kernel) (Nat.le_of_ble_eq_true rfl) ?_
  intro p e s m args below meth c Q C hr hlk hQ hw ls hl
  have hx := C.1
  have hb := C.2.1
  have hl : lv_has ls 1 [(0, .ref (eA E 15))] := hl
  unfold wp_X9_thrown at h
  refine lv_aload_n hx hb dX9_thrown_0 rfl (lv_at hl 0 rfl) ?_
  refine g9_0 C hw (hF 15 (by decide)) K_f_X9_45 dX9_thrown_1 ?_
  rw [hQ]
  exact ret_i C hr hlk hw h dX9_thrown_4
theorem hy_X9_within : yX9_within.cls ≠ "java/lang/invoke/MethodHandle" ∧ yX9_within.cls ≠ "java/lang/invoke/VarHandle" ∧ (parseMethodDescriptor yX9_within.desc).map (fun d => d.parameters.length) = some 3 := by decide +kernel
def wp_X9_within (w : Wd) (p0 : Int32) (p1 : Int32) (p2 : Int32) (Post : Int32 → Wd → Prop) : Prop :=
  (p0 < p1 → (Post 0 w)) ∧ (¬ p0 < p1 → ((p2 < p0 → (Post 0 w)) ∧ (¬ p2 < p0 → (Post 1 w))))
set_option maxHeartbeats 4000000 in
set_option maxRecDepth 100000 in
theorem mt_X9_within (l : Launch) {E : En} (hI : Inj E) (hF : ∀ o, (15 ≤ o ∧ o < 25) → o ∈ eL E) (w : Wd) (p0 : Int32) (p1 : Int32) (p2 : Int32) {Post : Int32 → Wd → Prop} (h : wp_X9_within w p0 p1 p2 Post) : MI l E yX9_within cX9_within 3 (some .boolean) 0 0 [.int p0, .int p1, .int p2] w Post := by
  refine MG.intro hI (by decide +kernel) (Nat.le_of_ble_eq_true rfl) ?_
  intro p e s m args below meth c Q C hr hlk hQ hw ls hl
  have hx := C.1
  have hb := C.2.1
  have hl : lv_has ls 3 [(0, .int p0), (1, .int p1), (2, .int p2)] := hl
  unfold wp_X9_within at h
  refine lv_iload_n hx hb dX9_within_0 rfl (lv_at hl 0 rfl) ?_
  refine lv_iload_n hx hb dX9_within_1 rfl (lv_at hl 1 rfl) ?_
  refine lv_icmp_lt (tgt := 14) hx hb dX9_within_2 (by decide) (fun c1 => ?_) (fun c1 => ?_)
  · have h := h.1 c1
    refine lv_iconst (v := 0) hx hb dX9_within_14 (by decide) ?_
    rw [hQ]
    exact ret_z C hr hlk hw h (by decide) dX9_within_15
  · have h := h.2 c1
    refine lv_iload_n hx hb dX9_within_5 rfl (lv_at hl 0 rfl) ?_
    refine lv_iload_n hx hb dX9_within_6 rfl (lv_at hl 2 rfl) ?_
    refine lv_icmp_gt (tgt := 14) hx hb dX9_within_7 (by decide) (fun c2 => ?_) (fun c2 => ?_)
    · have h := h.1 c2
      refine lv_iconst (v := 0) hx hb dX9_within_14 (by decide) ?_
      rw [hQ]
      exact ret_z C hr hlk hw h (by decide) dX9_within_15
    · have h := h.2 c2
      refine lv_iconst (v := 1) hx hb dX9_within_10 (by decide) ?_
      refine lv_goto (tgt := 15) hx hb dX9_within_11 (by decide) ?_
      rw [hQ]
      exact ret_z C hr hlk hw h (by decide) dX9_within_15
theorem hy_X9_has : yX9_has.cls ≠ "java/lang/invoke/MethodHandle" ∧ yX9_has.cls ≠ "java/lang/invoke/VarHandle" ∧ (parseMethodDescriptor yX9_has.desc).map (fun d => d.parameters.length) = some 2 := by decide +kernel
def wp_X9_has (w : Wd) (p0 : Int32) (p1 : Int32) (Post : Int32 → Wd → Prop) : Prop :=
  (((p0 >>> (p1 &&& 31)) &&& 1) = 1 → (Post 1 w)) ∧ (¬ ((p0 >>> (p1 &&& 31)) &&& 1) = 1 → (Post 0 w))
set_option maxHeartbeats 4000000 in
set_option maxRecDepth 100000 in
theorem mt_X9_has (l : Launch) {E : En} (hI : Inj E) (hF : ∀ o, (15 ≤ o ∧ o < 25) → o ∈ eL E) (w : Wd) (p0 : Int32) (p1 : Int32) {Post : Int32 → Wd → Prop} (h : wp_X9_has w p0 p1 Post) : MI l E yX9_has cX9_has 2 (some .boolean) 0 0 [.int p0, .int p1] w Post := by
  refine MG.intro hI (by decide +kernel) (Nat.le_of_ble_eq_true rfl) ?_
  intro p e s m args below meth c Q C hr hlk hQ hw ls hl
  have hx := C.1
  have hb := C.2.1
  have hl : lv_has ls 2 [(0, .int p0), (1, .int p1)] := hl
  unfold wp_X9_has at h
  refine lv_iload_n hx hb dX9_has_0 rfl (lv_at hl 0 rfl) ?_
  refine lv_iload_n hx hb dX9_has_1 rfl (lv_at hl 1 rfl) ?_
  refine lv_ishr hx hb dX9_has_2 ?_
  refine lv_iconst (v := 1) hx hb dX9_has_3 (by decide) ?_
  refine lv_iand hx hb dX9_has_4 ?_
  refine lv_iconst (v := 1) hx hb dX9_has_5 (by decide) ?_
  refine lv_icmp_ne (tgt := 13) hx hb dX9_has_6 (by decide) (fun c1 => ?_) (fun c1 => ?_)
  · have h := h.2 c1
    refine lv_iconst (v := 0) hx hb dX9_has_13 (by decide) ?_
    rw [hQ]
    exact ret_z C hr hlk hw h (by decide) dX9_has_14
  · have h := h.1 c1
    refine lv_iconst (v := 1) hx hb dX9_has_9 (by decide) ?_
    refine lv_goto (tgt := 14) hx hb dX9_has_10 (by decide) ?_
    rw [hQ]
    exact ret_z C hr hlk hw h (by decide) dX9_has_14
theorem hy_X9_bits : yX9_bits.cls ≠ "java/lang/invoke/MethodHandle" ∧ yX9_bits.cls ≠ "java/lang/invoke/VarHandle" ∧ (parseMethodDescriptor yX9_bits.desc).map (fun d => d.parameters.length) = some 1 := by decide +kernel
def wp_X9_bits (w : Wd) (p0 : Int32) (Post : Int32 → Wd → Prop) : Prop :=
  ∀ J4 : Int32 → Int32 → Wd → Prop, (∀ (x1 : Int32) (x2 : Int32) (w : Wd), ((x2 = 0 → (Post x1 w)) ∧ (¬ x2 = 0 → (∀ y1 : Int32, y1 = x1 + 1 → (∀ y2 : Int32, y2 = x2 &&& (x2 - 1) → (J4 y1 y2 w))))) → J4 x1 x2 w) →
  J4 0 p0 w
set_option maxHeartbeats 4000000 in
set_option maxRecDepth 100000 in
theorem mt_X9_bits (l : Launch) {E : En} (hI : Inj E) (hF : ∀ o, (15 ≤ o ∧ o < 25) → o ∈ eL E) (w : Wd) (p0 : Int32) {Post : Int32 → Wd → Prop} (h : wp_X9_bits w p0 Post) : MI l E yX9_bits cX9_bits 3 (some .int) 0 0 [.int p0] w Post := by
  refine MG.intro hI (by decide +kernel) (Nat.le_of_ble_eq_true rfl) ?_
  intro p e s m args below meth c Q C hr hlk hQ hw ls hl
  have hx := C.1
  have hb := C.2.1
  have hl : lv_has ls 3 [(0, .int p0)] := hl
  unfold wp_X9_bits at h
  have h := h (fun x1 x2 w => Jp E p l e (Rm 0 0) s m args below meth c Q 3 4 [(1, .int x1), (2, .int x2)] w)
  have h := h ?_
  rotate_left
  · intro x1 x2 w h H locs hw ls hl
    refine lv_iload_n hx hb dX9_bits_4 rfl (lv_at hl 1 rfl) ?_
    refine lv_if_eq (tgt := 20) hx hb dX9_bits_5 (by decide) (fun c1 => ?_) (fun c1 => ?_)
    · have h := h.1 c1
      refine lv_iload_n hx hb dX9_bits_20 rfl (lv_at hl 0 rfl) ?_
      rw [hQ]
      exact ret_i C hr hlk hw h dX9_bits_21
    · have h := h.2 c1
      obtain ⟨y1, ey1⟩ : ∃ y : Int32, y = x1 + 1 := ⟨_, rfl⟩
      have h := h y1 ey1
      refine lv_iinc (v := y1) (lv' := [(1, .int y1), (2, .int x2)]) hx hb dX9_bits_8 hl (k := 0) rfl (by rw [ey1]; first | rfl | decide) (by decide) rfl (fun ls hl => ?_)
      refine lv_iload_n hx hb dX9_bits_11 rfl (lv_at hl 1 rfl) ?_
      refine lv_iload_n hx hb dX9_bits_12 rfl (lv_at hl 1 rfl) ?_
      refine lv_iconst (v := 1) hx hb dX9_bits_13 (by decide) ?_
      refine lv_isub hx hb dX9_bits_14 ?_
      refine lv_iand hx hb dX9_bits_15 ?_
      refine lv_topi (fun y2 ey2 => ?_)
      have h := h y2 ey2
      refine lv_istore_n (lv' := [(2, .int y2), (1, .int y1)]) hx hb dX9_bits_16 rfl hl (by decide) rfl (fun ls hl => ?_)
      refine lv_goto (tgt := 4) hx hb dX9_bits_17 (by decide) ?_
      exact h _ _ hw _ (lv_sub hl [1, 0] rfl)
  refine lv_iconst (v := 0) hx hb dX9_bits_0 (by decide) ?_
  refine lv_istore_n (lv' := [(1, .int 0), (0, .int p0)]) hx hb dX9_bits_1 rfl hl (by decide) rfl (fun ls hl => ?_)
  refine lv_iload_n hx hb dX9_bits_2 rfl (lv_at hl 1 rfl) ?_
  refine lv_istore_n (lv' := [(2, .int p0), (1, .int 0), (0, .int p0)]) hx hb dX9_bits_3 rfl hl (by decide) rfl (fun ls hl => ?_)
  exact h _ _ hw _ (lv_sub hl [1, 0] rfl)
theorem hy_X9_fail : yX9_fail.cls ≠ "java/lang/invoke/MethodHandle" ∧ yX9_fail.cls ≠ "java/lang/invoke/VarHandle" ∧ (parseMethodDescriptor yX9_fail.desc).map (fun d => d.parameters.length) = some 1 := by decide +kernel
def wp_X9_fail (w : Wd) (p1 : Int32) (Post : Int32 → Wd → Prop) : Prop :=
  Post 0 (sI w 15 0 p1)
set_option maxHeartbeats 4000000 in
set_option maxRecDepth 100000 in
theorem mt_X9_fail (l : Launch) {E : En} (hI : Inj E) (hF : ∀ o, (15 ≤ o ∧ o < 25) → o ∈ eL E) (w : Wd) (p1 : Int32) {Post : Int32 → Wd → Prop} (h : wp_X9_fail w p1 Post) : MI l E yX9_fail cX9_fail 2 (some .int) 0 0 [.ref (eA E 15), .int p1] w Post := by
  refine MG.intro hI (by decide +kernel) (Nat.le_of_ble_eq_true rfl) ?_
  intro p e s m args below meth c Q C hr hlk hQ hw ls hl
  have hx := C.1
  have hb := C.2.1
  have hl : lv_has ls 2 [(0, .ref (eA E 15)), (1, .int p1)] := hl
  unfold wp_X9_fail at h
  refine lv_aload_n hx hb dX9_fail_0 rfl (lv_at hl 0 rfl) ?_
  refine lv_iload_n hx hb dX9_fail_1 rfl (lv_at hl 1 rfl) ?_
  refine p9_0 C hw (hF 15 (by decide)) K_f_X9_45 dX9_fail_2 (fun H locs hw => ?_)
  refine lv_iconst (v := 0) hx hb dX9_fail_5 (by decide) ?_
  rw [hQ]
  exact ret_i C hr hlk hw h dX9_fail_6
theorem hy_X9_appendInt : yX9_appendInt.cls ≠ "java/lang/invoke/MethodHandle" ∧ yX9_appendInt.cls ≠ "java/lang/invoke/VarHandle" ∧ (parseMethodDescriptor yX9_appendInt.desc).map (fun d => d.parameters.length) = some 1 := by decide +kernel
def wp_X9_appendInt (w : Wd) (p1 : Int32) (Post : Wd → Prop) : Prop :=
  ∀ J3 : Int32 → Wd → Prop, (∀ (x2 : Int32) (w : Wd), ((x2 < 0 → (Post w)) ∧ (¬ x2 < 0 → (∀ y1 : Int32, y1 = (p1 >>> (x2 &&& 31)).toInt8.toInt32 → (vp_in (gI w 15 2) 400 ∧ (∀ y2 : Int32, y2 = (gI (sA w 16 ((gI w 15 2).toNatClampNeg) (vp_nar .byte y1)) 15 2) + 1 → (∀ y3 : Int32, y3 = x2 + (-8) → (J3 y3 (sI (sA w 16 ((gI w 15 2).toNatClampNeg) (vp_nar .byte y1)) 15 2 y2)))))))) → J3 x2 w) →
  J3 24 w
set_option maxHeartbeats 4000000 in
set_option maxRecDepth 100000 in
theorem mt_X9_appendInt (l : Launch) {E : En} (hI : Inj E) (hF : ∀ o, (15 ≤ o ∧ o < 25) → o ∈ eL E) (w : Wd) (p1 : Int32) {Post : Wd → Prop} (h : wp_X9_appendInt w p1 Post) : MV l E yX9_appendInt cX9_appendInt 3 none 0 0 [.ref (eA E 15), .int p1] w Post := by
  refine MG.intro hI (by decide +kernel) (Nat.le_of_ble_eq_true rfl) ?_
  intro p e s m args below meth c Q C hr hlk hQ hw ls hl
  have hx := C.1
  have hb := C.2.1
  have hl : lv_has ls 3 [(0, .ref (eA E 15)), (1, .int p1)] := hl
  unfold wp_X9_appendInt at h
  have h := h (fun x2 w => Jp E p l e (Rm 0 0) s m args below meth c Q 3 3 [(0, .ref (eA E 15)), (1, .int p1), (2, .int x2)] w)
  have h := h ?_
  rotate_left
  · intro x2 w h H locs hw ls hl
    refine lv_iload_n hx hb dX9_appendInt_3 rfl (lv_at hl 2 rfl) ?_
    refine lv_if_lt (tgt := 36) hx hb dX9_appendInt_4 (by decide) (fun c1 => ?_) (fun c1 => ?_)
    · have h := h.1 c1
      rw [hQ]
      exact ret_v C hr hlk hw h dX9_appendInt_36
    · have h := h.2 c1
      refine lv_aload_n hx hb dX9_appendInt_7 rfl (lv_at hl 0 rfl) ?_
      refine g9_1 C hw (hF 15 (by decide)) K_f_X9_7 dX9_appendInt_8 ?_
      refine lv_aload_n hx hb dX9_appendInt_11 rfl (lv_at hl 0 rfl) ?_
      refine g9_2 C hw (hF 15 (by decide)) K_f_X9_49 dX9_appendInt_12 ?_
      refine lv_iload_n hx hb dX9_appendInt_15 rfl (lv_at hl 1 rfl) ?_
      refine lv_iload_n hx hb dX9_appendInt_16 rfl (lv_at hl 2 rfl) ?_
      refine lv_ishr hx hb dX9_appendInt_17 ?_
      refine lv_i2b hx hb dX9_appendInt_18 rfl ?_
      refine lv_topi (fun y1 ey1 => ?_)
      have h := h y1 ey1
      obtain ⟨hi1, h⟩ := h
      refine r_bast C hw 16 400 (hF 16 (by decide)) (fun _ => rfl) hi1 dX9_appendInt_19 (fun H locs hw => ?_)
      refine lv_aload_n hx hb dX9_appendInt_20 rfl (lv_at hl 0 rfl) ?_
      refine lv_dup hx hb dX9_appendInt_21 rfl ?_
      refine g9_2 C hw (hF 15 (by decide)) K_f_X9_49 dX9_appendInt_22 ?_
      refine lv_iconst (v := 1) hx hb dX9_appendInt_25 (by decide) ?_
      refine lv_iadd hx hb dX9_appendInt_26 ?_
      refine lv_topi (fun y2 ey2 => ?_)
      have h := h y2 ey2
      refine p9_2 C hw (hF 15 (by decide)) K_f_X9_49 dX9_appendInt_27 (fun H locs hw => ?_)
      obtain ⟨y3, ey3⟩ : ∃ y : Int32, y = x2 + (-8) := ⟨_, rfl⟩
      have h := h y3 ey3
      refine lv_iinc (v := y3) (lv' := [(2, .int y3), (0, .ref (eA E 15)), (1, .int p1)]) hx hb dX9_appendInt_30 hl (k := 2) rfl (by rw [ey3]; first | rfl | decide) (by decide) rfl (fun ls hl => ?_)
      refine lv_goto (tgt := 3) hx hb dX9_appendInt_33 (by decide) ?_
      exact h _ _ hw _ (lv_sub hl [1, 2, 0] rfl)
  refine lv_bipush (v := 24) hx hb dX9_appendInt_0 (by decide) ?_
  refine lv_istore_n (lv' := [(2, .int 24), (0, .ref (eA E 15)), (1, .int p1)]) hx hb dX9_appendInt_2 rfl hl (by decide) rfl (fun ls hl => ?_)
  exact h _ _ hw _ (lv_sub hl [1, 2, 0] rfl)
theorem hy_X9_append : yX9_append.cls ≠ "java/lang/invoke/MethodHandle" ∧ yX9_append.cls ≠ "java/lang/invoke/VarHandle" ∧ (parseMethodDescriptor yX9_append.desc).map (fun d => d.parameters.length) = some 5 := by decide +kernel
def wp_X9_append (w : Wd) (p1 : Int32) (p2 : Int32) (p3 : Int32) (p4 : Int32) (p5 : Int32) (Post : Int32 → Wd → Prop) : Prop :=
  (((gI (sI w 15 0 0) 15 2) + 20) ≤ 400 → (wp_X9_appendInt (sI w 15 0 0) p1 (fun w1 => wp_X9_appendInt w1 p2 (fun w2 => wp_X9_appendInt w2 p3 (fun w3 => wp_X9_appendInt w3 p4 (fun w4 => wp_X9_appendInt w4 p5 (fun w5 => Post (gI w5 15 2) w5))))))) ∧ (¬ ((gI (sI w 15 0 0) 15 2) + 20) ≤ 400 → (Post ((-1)) (sI w 15 0 0)))
set_option maxHeartbeats 4000000 in
set_option maxRecDepth 100000 in
theorem mt_X9_append (l : Launch) {E : En} (hI : Inj E) (hF : ∀ o, (15 ≤ o ∧ o < 25) → o ∈ eL E) (w : Wd) (p1 : Int32) (p2 : Int32) (p3 : Int32) (p4 : Int32) (p5 : Int32) {Post : Int32 → Wd → Prop} (h : wp_X9_append w p1 p2 p3 p4 p5 Post) : MI l E yX9_append cX9_append 6 (some .int) 1 22 [.ref (eA E 15), .int p1, .int p2, .int p3, .int p4, .int p5] w Post := by
  refine MG.intro hI (by decide +kernel) (Nat.le_of_ble_eq_true rfl) ?_
  intro p e s m args below meth c Q C hr hlk hQ hw ls hl
  have hx := C.1
  have hb := C.2.1
  have hl : lv_has ls 6 [(0, .ref (eA E 15)), (1, .int p1), (2, .int p2), (3, .int p3), (4, .int p4), (5, .int p5)] := hl
  unfold wp_X9_append at h
  refine lv_aload_n hx hb dX9_append_0 rfl (lv_at hl 0 rfl) ?_
  refine lv_iconst (v := 0) hx hb dX9_append_1 (by decide) ?_
  refine p9_0 C hw (hF 15 (by decide)) K_f_X9_45 dX9_append_2 (fun H locs hw => ?_)
  refine lv_aload_n hx hb dX9_append_5 rfl (lv_at hl 0 rfl) ?_
  refine g9_2 C hw (hF 15 (by decide)) K_f_X9_49 dX9_append_6 ?_
  refine lv_bipush (v := 20) hx hb dX9_append_9 (by decide) ?_
  refine lv_iadd hx hb dX9_append_11 ?_
  refine lv_sipush (v := 400) hx hb dX9_append_12 (by decide) ?_
  refine lv_icmp_le (tgt := 20) hx hb dX9_append_15 (by decide) (fun c1 => ?_) (fun c1 => ?_)
  · have h := h.1 c1
    refine lv_aload_n hx hb dX9_append_20 rfl (lv_at hl 0 rfl) ?_
    refine lv_iload_n hx hb dX9_append_21 rfl (lv_at hl 1 rfl) ?_
    refine done_v hw (my_runV (As := [.int p1]) (rest := []) C hw 15 9 (hF 15 (by decide)) rfl rfl (mt_X9_appendInt l C.2.2.2.2.2.2.2 hF _ _ h) K_m_X9_52 K_i_X9_appendInt K_v_X9_appendInt K_n_X9 K_c_X9_appendInt hy_X9_appendInt ⟨Nat.le_of_ble_eq_true rfl, Nat.le_of_ble_eq_true rfl⟩ hl.1 rfl (Nat.le_of_ble_eq_true rfl) dX9_append_22 ⟨Nat.zero_le _, Nat.zero_le _⟩) (fun w1 H locs h hw => ?_)
    refine lv_aload_n hx hb dX9_append_25 rfl (lv_at hl 0 rfl) ?_
    refine lv_iload_n hx hb dX9_append_26 rfl (lv_at hl 2 rfl) ?_
    refine done_v hw (my_runV (As := [.int p2]) (rest := []) C hw 15 9 (hF 15 (by decide)) rfl rfl (mt_X9_appendInt l C.2.2.2.2.2.2.2 hF _ _ h) K_m_X9_52 K_i_X9_appendInt K_v_X9_appendInt K_n_X9 K_c_X9_appendInt hy_X9_appendInt ⟨Nat.le_of_ble_eq_true rfl, Nat.le_of_ble_eq_true rfl⟩ hl.1 rfl (Nat.le_of_ble_eq_true rfl) dX9_append_27 ⟨Nat.zero_le _, Nat.zero_le _⟩) (fun w2 H locs h hw => ?_)
    refine lv_aload_n hx hb dX9_append_30 rfl (lv_at hl 0 rfl) ?_
    refine lv_iload_n hx hb dX9_append_31 rfl (lv_at hl 3 rfl) ?_
    refine done_v hw (my_runV (As := [.int p3]) (rest := []) C hw 15 9 (hF 15 (by decide)) rfl rfl (mt_X9_appendInt l C.2.2.2.2.2.2.2 hF _ _ h) K_m_X9_52 K_i_X9_appendInt K_v_X9_appendInt K_n_X9 K_c_X9_appendInt hy_X9_appendInt ⟨Nat.le_of_ble_eq_true rfl, Nat.le_of_ble_eq_true rfl⟩ hl.1 rfl (Nat.le_of_ble_eq_true rfl) dX9_append_32 ⟨Nat.zero_le _, Nat.zero_le _⟩) (fun w3 H locs h hw => ?_)
    refine lv_aload_n hx hb dX9_append_35 rfl (lv_at hl 0 rfl) ?_
    refine lv_iload hx hb dX9_append_36 (lv_at hl 4 rfl) ?_
    refine done_v hw (my_runV (As := [.int p4]) (rest := []) C hw 15 9 (hF 15 (by decide)) rfl rfl (mt_X9_appendInt l C.2.2.2.2.2.2.2 hF _ _ h) K_m_X9_52 K_i_X9_appendInt K_v_X9_appendInt K_n_X9 K_c_X9_appendInt hy_X9_appendInt ⟨Nat.le_of_ble_eq_true rfl, Nat.le_of_ble_eq_true rfl⟩ hl.1 rfl (Nat.le_of_ble_eq_true rfl) dX9_append_38 ⟨Nat.zero_le _, Nat.zero_le _⟩) (fun w4 H locs h hw => ?_)
    refine lv_aload_n hx hb dX9_append_41 rfl (lv_at hl 0 rfl) ?_
    refine lv_iload hx hb dX9_append_42 (lv_at hl 5 rfl) ?_
    refine done_v hw (my_runV (As := [.int p5]) (rest := []) C hw 15 9 (hF 15 (by decide)) rfl rfl (mt_X9_appendInt l C.2.2.2.2.2.2.2 hF _ _ h) K_m_X9_52 K_i_X9_appendInt K_v_X9_appendInt K_n_X9 K_c_X9_appendInt hy_X9_appendInt ⟨Nat.le_of_ble_eq_true rfl, Nat.le_of_ble_eq_true rfl⟩ hl.1 rfl (Nat.le_of_ble_eq_true rfl) dX9_append_44 ⟨Nat.zero_le _, Nat.zero_le _⟩) (fun w5 H locs h hw => ?_)
    refine lv_aload_n hx hb dX9_append_47 rfl (lv_at hl 0 rfl) ?_
    refine g9_2 C hw (hF 15 (by decide)) K_f_X9_49 dX9_append_48 ?_
    rw [hQ]
    exact ret_i C hr hlk hw h dX9_append_51
  · have h := h.2 c1
    refine lv_iconst (v := (-1)) hx hb dX9_append_18 (by decide) ?_
    rw [hQ]
    exact ret_i C hr hlk hw h dX9_append_19
theorem hy_X9_byteAt : yX9_byteAt.cls ≠ "java/lang/invoke/MethodHandle" ∧ yX9_byteAt.cls ≠ "java/lang/invoke/VarHandle" ∧ (parseMethodDescriptor yX9_byteAt.desc).map (fun d => d.parameters.length) = some 1 := by decide +kernel
def wp_X9_byteAt (w : Wd) (p1 : Int32) (Post : Int32 → Wd → Prop) : Prop :=
  ((gI w 15 3) ≤ p1 → (Post ((-1)) w)) ∧ (¬ (gI w 15 3) ≤ p1 → (vp_in p1 400 ∧ (Post ((gA w 16 p1.toNatClampNeg) &&& 255) w)))
set_option maxHeartbeats 4000000 in
set_option maxRecDepth 100000 in
theorem mt_X9_byteAt (l : Launch) {E : En} (hI : Inj E) (hF : ∀ o, (15 ≤ o ∧ o < 25) → o ∈ eL E) (w : Wd) (p1 : Int32) {Post : Int32 → Wd → Prop} (h : wp_X9_byteAt w p1 Post) : MI l E yX9_byteAt cX9_byteAt 2 (some .int) 0 0 [.ref (eA E 15), .int p1] w Post := by
  refine MG.intro hI (by decide +kernel) (Nat.le_of_ble_eq_true rfl) ?_
  intro p e s m args below meth c Q C hr hlk hQ hw ls hl
  have hx := C.1
  have hb := C.2.1
  have hl : lv_has ls 2 [(0, .ref (eA E 15)), (1, .int p1)] := hl
  unfold wp_X9_byteAt at h
  refine lv_iload_n hx hb dX9_byteAt_0 rfl (lv_at hl 1 rfl) ?_
  refine lv_aload_n hx hb dX9_byteAt_1 rfl (lv_at hl 0 rfl) ?_
  refine g9_3 C hw (hF 15 (by decide)) K_f_X9_56 dX9_byteAt_2 ?_
  refine lv_icmp_ge (tgt := 21) hx hb dX9_byteAt_5 (by decide) (fun c1 => ?_) (fun c1 => ?_)
  · have h := h.1 c1
    refine lv_iconst (v := (-1)) hx hb dX9_byteAt_21 (by decide) ?_
    rw [hQ]
    exact ret_i C hr hlk hw h dX9_byteAt_22
  · have h := h.2 c1
    refine lv_aload_n hx hb dX9_byteAt_8 rfl (lv_at hl 0 rfl) ?_
    refine g9_1 C hw (hF 15 (by decide)) K_f_X9_7 dX9_byteAt_9 ?_
    refine lv_iload_n hx hb dX9_byteAt_12 rfl (lv_at hl 1 rfl) ?_
    obtain ⟨hi1, h⟩ := h
    refine r_bald C hw 16 400 (hF 16 (by decide)) rfl hi1 dX9_byteAt_13 ?_
    refine lv_sipush (v := 255) hx hb dX9_byteAt_14 (by decide) ?_
    refine lv_iand hx hb dX9_byteAt_17 ?_
    refine lv_goto (tgt := 22) hx hb dX9_byteAt_18 (by decide) ?_
    rw [hQ]
    exact ret_i C hr hlk hw h dX9_byteAt_22
theorem hy_X9_nextToken : yX9_nextToken.cls ≠ "java/lang/invoke/MethodHandle" ∧ yX9_nextToken.cls ≠ "java/lang/invoke/VarHandle" ∧ (parseMethodDescriptor yX9_nextToken.desc).map (fun d => d.parameters.length) = some 0 := by decide +kernel
def wp_X9_nextToken (w : Wd) (Post : Wd → Prop) : Prop :=
  ∀ J8 : Wd → Prop, ∀ J166 : Wd → Prop, ∀ J93 : Wd → Prop, (∀ (w : Wd), (wp_X9_byteAt w (gI w 15 4) (fun r1 w1 => (r1 = 32 → (∀ y2 : Int32, y2 = (gI w1 15 4) + 1 → (J8 (sI w1 15 4 y2)))) ∧ (¬ r1 = 32 → (wp_X9_byteAt w1 (gI w1 15 4) (fun r2 w2 => (r2 = 10 → (∀ y5 : Int32, y5 = (gI w2 15 4) + 1 → (J8 (sI w2 15 4 y5)))) ∧ (¬ r2 = 10 → (wp_X9_byteAt w2 (gI w2 15 4) (fun r3 w3 => ∀ y3 : Int32, y3 = gI w3 15 4 → ((r3 = ((-1)) → (Post (sI (sI (sI w3 15 5 y3) 15 6 4) 15 6 0))) ∧ (¬ r3 = ((-1)) → (wp_X9_within (sI (sI w3 15 5 y3) 15 6 4) r3 97 122 (fun r4 w4 => (r4 = 0 → (wp_X9_within w4 r3 48 57 (fun r5 w5 => (r5 = 0 → (∀ y4 : Int32, y4 = (gI w5 15 5) + 1 → ((r3 = 59 → (Post (sI (sI w5 15 5 y4) 15 6 3))) ∧ (¬ r3 = 59 → (Post (sI (sI w5 15 5 y4) 15 6 4)))))) ∧ (¬ r5 = 0 → (J166 (sI w5 15 7 0)))))) ∧ (¬ r4 = 0 → (J93 w4)))))))))))))) → J8 w) →
  (∀ (w : Wd), (wp_X9_byteAt w (gI w 15 5) (fun r6 w6 => wp_X9_within w6 r6 48 57 (fun r7 w7 => (r7 = 0 → ((((gI w7 15 5) - (gI w7 15 4)) ≤ 2 → (Post (sI w7 15 6 2))) ∧ (¬ ((gI w7 15 5) - (gI w7 15 4)) ≤ 2 → (Post (sI w7 15 6 4))))) ∧ (¬ r7 = 0 → ((2 ≤ ((gI w7 15 5) - (gI w7 15 4)) → (∀ y6 : Int32, y6 = gI w7 15 7 → (∀ y7 : Int32, y7 = (gI (sI w7 15 7 y6) 15 5) + 1 → (J166 (sI (sI w7 15 7 y6) 15 5 y7))))) ∧ (¬ 2 ≤ ((gI w7 15 5) - (gI w7 15 4)) → (wp_X9_byteAt w7 (gI w7 15 5) (fun r8 w8 => ∀ y8 : Int32, y8 = ((10 * (gI w7 15 7)) + r8) - 48 → (∀ y9 : Int32, y9 = (gI (sI w8 15 7 y8) 15 5) + 1 → (J166 (sI (sI w8 15 7 y8) 15 5 y9))))))))))) → J166 w) →
  (∀ (w : Wd), (wp_X9_byteAt w (gI w 15 5) (fun r9 w9 => wp_X9_within w9 r9 97 122 (fun r10 w10 => (r10 = 0 → ((((gI w10 15 5) - (gI w10 15 4)) ≤ 8 → (Post (sI w10 15 6 1))) ∧ (¬ ((gI w10 15 5) - (gI w10 15 4)) ≤ 8 → (Post (sI w10 15 6 4))))) ∧ (¬ r10 = 0 → (∀ y10 : Int32, y10 = (gI w10 15 5) + 1 → (J93 (sI w10 15 5 y10))))))) → J93 w) →
  ∀ y1 : Int32, y1 = gI w 15 5 → (J8 (sI w 15 4 y1))
set_option maxHeartbeats 4000000 in
set_option maxRecDepth 100000 in
theorem mt_X9_nextToken (l : Launch) {E : En} (hI : Inj E) (hF : ∀ o, (15 ≤ o ∧ o < 25) → o ∈ eL E) (w : Wd) {Post : Wd → Prop} (h : wp_X9_nextToken w Post) : MV l E yX9_nextToken cX9_nextToken 2 none 1 22 [.ref (eA E 15)] w Post := by
  refine MG.intro hI (by decide +kernel) (Nat.le_of_ble_eq_true rfl) ?_
  intro p e s m args below meth c Q C hr hlk hQ hw ls hl
  have hx := C.1
  have hb := C.2.1
  have hl : lv_has ls 2 [(0, .ref (eA E 15))] := hl
  unfold wp_X9_nextToken at h
  have h := h (fun w => Jp E p l e (Rm 1 22) s m args below meth c Q 2 8 [(0, .ref (eA E 15))] w)
  have h := h (fun w => Jp E p l e (Rm 1 22) s m args below meth c Q 2 166 [(0, .ref (eA E 15))] w)
  have h := h (fun w => Jp E p l e (Rm 1 22) s m args below meth c Q 2 93 [(0, .ref (eA E 15))] w)
  have h := h ?_
  rotate_left
  · intro w h H locs hw ls hl
    refine lv_aload_n hx hb dX9_nextToken_8 rfl (lv_at hl 0 rfl) ?_
    refine lv_aload_n hx hb dX9_nextToken_9 rfl (lv_at hl 0 rfl) ?_
    refine g9_4 C hw (hF 15 (by decide)) K_f_X9_62 dX9_nextToken_10 ?_
    refine done_i hw (my_runV (As := [.int (gI w 15 4)]) (rest := []) C hw 15 9 (hF 15 (by decide)) rfl rfl (mt_X9_byteAt l C.2.2.2.2.2.2.2 hF _ _ h) K_m_X9_65 K_i_X9_byteAt K_v_X9_byteAt K_n_X9 K_c_X9_byteAt hy_X9_byteAt ⟨Nat.le_of_ble_eq_true rfl, Nat.le_of_ble_eq_true rfl⟩ hl.1 rfl (Nat.le_of_ble_eq_true rfl) dX9_nextToken_13 ⟨Nat.zero_le _, Nat.zero_le _⟩) (fun r1 w1 H locs h hw => ?_)
    refine lv_bipush (v := 32) hx hb dX9_nextToken_16 (by decide) ?_
    refine lv_icmp_eq (tgt := 34) hx hb dX9_nextToken_18 (by decide) (fun c1 => ?_) (fun c1 => ?_)
    · have h := h.1 c1
      refine lv_aload_n hx hb dX9_nextToken_34 rfl (lv_at hl 0 rfl) ?_
      refine lv_dup hx hb dX9_nextToken_35 rfl ?_
      refine g9_4 C hw (hF 15 (by decide)) K_f_X9_62 dX9_nextToken_36 ?_
      refine lv_iconst (v := 1) hx hb dX9_nextToken_39 (by decide) ?_
      refine lv_iadd hx hb dX9_nextToken_40 ?_
      refine lv_topi (fun y2 ey2 => ?_)
      have h := h y2 ey2
      refine p9_4 C hw (hF 15 (by decide)) K_f_X9_62 dX9_nextToken_41 (fun H locs hw => ?_)
      refine lv_goto (tgt := 8) hx hb dX9_nextToken_44 (by decide) ?_
      exact h _ _ hw _ (lv_sub hl [0] rfl)
    · have h := h.2 c1
      refine lv_aload_n hx hb dX9_nextToken_21 rfl (lv_at hl 0 rfl) ?_
      refine lv_aload_n hx hb dX9_nextToken_22 rfl (lv_at hl 0 rfl) ?_
      refine g9_4 C hw (hF 15 (by decide)) K_f_X9_62 dX9_nextToken_23 ?_
      refine done_i hw (my_runV (As := [.int (gI w1 15 4)]) (rest := []) C hw 15 9 (hF 15 (by decide)) rfl rfl (mt_X9_byteAt l C.2.2.2.2.2.2.2 hF _ _ h) K_m_X9_65 K_i_X9_byteAt K_v_X9_byteAt K_n_X9 K_c_X9_byteAt hy_X9_byteAt ⟨Nat.le_of_ble_eq_true rfl, Nat.le_of_ble_eq_true rfl⟩ hl.1 rfl (Nat.le_of_ble_eq_true rfl) dX9_nextToken_26 ⟨Nat.zero_le _, Nat.zero_le _⟩) (fun r2 w2 H locs h hw => ?_)
      refine lv_bipush (v := 10) hx hb dX9_nextToken_29 (by decide) ?_
      refine lv_icmp_ne (tgt := 47) hx hb dX9_nextToken_31 (by decide) (fun c2 => ?_) (fun c2 => ?_)
      · have h := h.2 c2
        refine lv_aload_n hx hb dX9_nextToken_47 rfl (lv_at hl 0 rfl) ?_
        refine lv_aload_n hx hb dX9_nextToken_48 rfl (lv_at hl 0 rfl) ?_
        refine g9_4 C hw (hF 15 (by decide)) K_f_X9_62 dX9_nextToken_49 ?_
        refine done_i hw (my_runV (As := [.int (gI w2 15 4)]) (rest := []) C hw 15 9 (hF 15 (by decide)) rfl rfl (mt_X9_byteAt l C.2.2.2.2.2.2.2 hF _ _ h) K_m_X9_65 K_i_X9_byteAt K_v_X9_byteAt K_n_X9 K_c_X9_byteAt hy_X9_byteAt ⟨Nat.le_of_ble_eq_true rfl, Nat.le_of_ble_eq_true rfl⟩ hl.1 rfl (Nat.le_of_ble_eq_true rfl) dX9_nextToken_52 ⟨Nat.zero_le _, Nat.zero_le _⟩) (fun r3 w3 H locs h hw => ?_)
        refine lv_istore_n (lv' := [(1, .int r3), (0, .ref (eA E 15))]) hx hb dX9_nextToken_55 rfl hl (by decide) rfl (fun ls hl => ?_)
        refine lv_aload_n hx hb dX9_nextToken_56 rfl (lv_at hl 1 rfl) ?_
        refine lv_aload_n hx hb dX9_nextToken_57 rfl (lv_at hl 1 rfl) ?_
        refine g9_4 C hw (hF 15 (by decide)) K_f_X9_62 dX9_nextToken_58 ?_
        refine lv_topi (fun y3 ey3 => ?_)
        have h := h y3 ey3
        refine p9_5 C hw (hF 15 (by decide)) K_f_X9_59 dX9_nextToken_61 (fun H locs hw => ?_)
        refine lv_aload_n hx hb dX9_nextToken_64 rfl (lv_at hl 1 rfl) ?_
        refine lv_iconst (v := 4) hx hb dX9_nextToken_65 (by decide) ?_
        refine p9_6 C hw (hF 15 (by decide)) K_f_X9_69 dX9_nextToken_66 (fun H locs hw => ?_)
        refine lv_iload_n hx hb dX9_nextToken_69 rfl (lv_at hl 0 rfl) ?_
        refine lv_iconst (v := (-1)) hx hb dX9_nextToken_70 (by decide) ?_
        refine lv_icmp_ne (tgt := 82) hx hb dX9_nextToken_71 (by decide) (fun c3 => ?_) (fun c3 => ?_)
        · have h := h.2 c3
          refine lv_iload_n hx hb dX9_nextToken_82 rfl (lv_at hl 0 rfl) ?_
          refine lv_bipush (v := 97) hx hb dX9_nextToken_83 (by decide) ?_
          refine lv_bipush (v := 122) hx hb dX9_nextToken_85 (by decide) ?_
          refine done_i hw (my_runS (As := [.int r3, .int 97, .int 122]) (rest := []) C hw (mt_X9_within l C.2.2.2.2.2.2.2 hF _ _ _ _ h) K_m_X9_72 K_s_X9_within K_n_X9 K_c_X9_within hy_X9_within ⟨Nat.le_of_ble_eq_true rfl, Nat.le_of_ble_eq_true rfl⟩ hl.1 rfl (Nat.le_of_ble_eq_true rfl) dX9_nextToken_87 ⟨Nat.zero_le _, Nat.zero_le _⟩) (fun r4 w4 H locs h hw => ?_)
          refine lv_if_eq (tgt := 150) hx hb dX9_nextToken_90 (by decide) (fun c4 => ?_) (fun c4 => ?_)
          · have h := h.1 c4
            refine lv_iload_n hx hb dX9_nextToken_150 rfl (lv_at hl 0 rfl) ?_
            refine lv_bipush (v := 48) hx hb dX9_nextToken_151 (by decide) ?_
            refine lv_bipush (v := 57) hx hb dX9_nextToken_153 (by decide) ?_
            refine done_i hw (my_runS (As := [.int r3, .int 48, .int 57]) (rest := []) C hw (mt_X9_within l C.2.2.2.2.2.2.2 hF _ _ _ _ h) K_m_X9_72 K_s_X9_within K_n_X9 K_c_X9_within hy_X9_within ⟨Nat.le_of_ble_eq_true rfl, Nat.le_of_ble_eq_true rfl⟩ hl.1 rfl (Nat.le_of_ble_eq_true rfl) dX9_nextToken_155 ⟨Nat.zero_le _, Nat.zero_le _⟩) (fun r5 w5 H locs h hw => ?_)
            refine lv_if_eq (tgt := 265) hx hb dX9_nextToken_158 (by decide) (fun c5 => ?_) (fun c5 => ?_)
            · have h := h.1 c5
              refine lv_aload_n hx hb dX9_nextToken_265 rfl (lv_at hl 1 rfl) ?_
              refine lv_dup hx hb dX9_nextToken_266 rfl ?_
              refine g9_5 C hw (hF 15 (by decide)) K_f_X9_59 dX9_nextToken_267 ?_
              refine lv_iconst (v := 1) hx hb dX9_nextToken_270 (by decide) ?_
              refine lv_iadd hx hb dX9_nextToken_271 ?_
              refine lv_topi (fun y4 ey4 => ?_)
              have h := h y4 ey4
              refine p9_5 C hw (hF 15 (by decide)) K_f_X9_59 dX9_nextToken_272 (fun H locs hw => ?_)
              refine lv_aload_n hx hb dX9_nextToken_275 rfl (lv_at hl 1 rfl) ?_
              refine lv_iload_n hx hb dX9_nextToken_276 rfl (lv_at hl 0 rfl) ?_
              refine lv_bipush (v := 59) hx hb dX9_nextToken_277 (by decide) ?_
              refine lv_icmp_ne (tgt := 286) hx hb dX9_nextToken_279 (by decide) (fun c6 => ?_) (fun c6 => ?_)
              · have h := h.2 c6
                refine lv_iconst (v := 4) hx hb dX9_nextToken_286 (by decide) ?_
                refine p9_6 C hw (hF 15 (by decide)) K_f_X9_69 dX9_nextToken_287 (fun H locs hw => ?_)
                rw [hQ]
                exact ret_v C hr hlk hw h dX9_nextToken_290
              · have h := h.1 c6
                refine lv_iconst (v := 3) hx hb dX9_nextToken_282 (by decide) ?_
                refine lv_goto (tgt := 287) hx hb dX9_nextToken_283 (by decide) ?_
                refine p9_6 C hw (hF 15 (by decide)) K_f_X9_69 dX9_nextToken_287 (fun H locs hw => ?_)
                rw [hQ]
                exact ret_v C hr hlk hw h dX9_nextToken_290
            · have h := h.2 c5
              refine lv_aload_n hx hb dX9_nextToken_161 rfl (lv_at hl 1 rfl) ?_
              refine lv_iconst (v := 0) hx hb dX9_nextToken_162 (by decide) ?_
              refine p9_7 C hw (hF 15 (by decide)) K_f_X9_76 dX9_nextToken_163 (fun H locs hw => ?_)
              exact h _ _ hw _ (lv_sub hl [1] rfl)
          · have h := h.2 c4
            exact h _ _ hw _ (lv_sub hl [1] rfl)
        · have h := h.1 c3
          refine lv_aload_n hx hb dX9_nextToken_74 rfl (lv_at hl 1 rfl) ?_
          refine lv_iconst (v := 0) hx hb dX9_nextToken_75 (by decide) ?_
          refine p9_6 C hw (hF 15 (by decide)) K_f_X9_69 dX9_nextToken_76 (fun H locs hw => ?_)
          refine lv_goto (tgt := 290) hx hb dX9_nextToken_79 (by decide) ?_
          rw [hQ]
          exact ret_v C hr hlk hw h dX9_nextToken_290
      · have h := h.1 c2
        refine lv_aload_n hx hb dX9_nextToken_34 rfl (lv_at hl 0 rfl) ?_
        refine lv_dup hx hb dX9_nextToken_35 rfl ?_
        refine g9_4 C hw (hF 15 (by decide)) K_f_X9_62 dX9_nextToken_36 ?_
        refine lv_iconst (v := 1) hx hb dX9_nextToken_39 (by decide) ?_
        refine lv_iadd hx hb dX9_nextToken_40 ?_
        refine lv_topi (fun y5 ey5 => ?_)
        have h := h y5 ey5
        refine p9_4 C hw (hF 15 (by decide)) K_f_X9_62 dX9_nextToken_41 (fun H locs hw => ?_)
        refine lv_goto (tgt := 8) hx hb dX9_nextToken_44 (by decide) ?_
        exact h _ _ hw _ (lv_sub hl [0] rfl)
  have h := h ?_
  rotate_left
  · intro w h H locs hw ls hl
    refine lv_aload_n hx hb dX9_nextToken_166 rfl (lv_at hl 0 rfl) ?_
    refine lv_aload_n hx hb dX9_nextToken_167 rfl (lv_at hl 0 rfl) ?_
    refine g9_5 C hw (hF 15 (by decide)) K_f_X9_59 dX9_nextToken_168 ?_
    refine done_i hw (my_runV (As := [.int (gI w 15 5)]) (rest := []) C hw 15 9 (hF 15 (by decide)) rfl rfl (mt_X9_byteAt l C.2.2.2.2.2.2.2 hF _ _ h) K_m_X9_65 K_i_X9_byteAt K_v_X9_byteAt K_n_X9 K_c_X9_byteAt hy_X9_byteAt ⟨Nat.le_of_ble_eq_true rfl, Nat.le_of_ble_eq_true rfl⟩ hl.1 rfl (Nat.le_of_ble_eq_true rfl) dX9_nextToken_171 ⟨Nat.zero_le _, Nat.zero_le _⟩) (fun r6 w6 H locs h hw => ?_)
    refine lv_bipush (v := 48) hx hb dX9_nextToken_174 (by decide) ?_
    refine lv_bipush (v := 57) hx hb dX9_nextToken_176 (by decide) ?_
    refine done_i hw (my_runS (As := [.int r6, .int 48, .int 57]) (rest := []) C hw (mt_X9_within l C.2.2.2.2.2.2.2 hF _ _ _ _ h) K_m_X9_72 K_s_X9_within K_n_X9 K_c_X9_within hy_X9_within ⟨Nat.le_of_ble_eq_true rfl, Nat.le_of_ble_eq_true rfl⟩ hl.1 rfl (Nat.le_of_ble_eq_true rfl) dX9_nextToken_178 ⟨Nat.zero_le _, Nat.zero_le _⟩) (fun r7 w7 H locs h hw => ?_)
    refine lv_if_eq (tgt := 240) hx hb dX9_nextToken_181 (by decide) (fun c7 => ?_) (fun c7 => ?_)
    · have h := h.1 c7
      refine lv_aload_n hx hb dX9_nextToken_240 rfl (lv_at hl 0 rfl) ?_
      refine lv_aload_n hx hb dX9_nextToken_241 rfl (lv_at hl 0 rfl) ?_
      refine g9_5 C hw (hF 15 (by decide)) K_f_X9_59 dX9_nextToken_242 ?_
      refine lv_aload_n hx hb dX9_nextToken_245 rfl (lv_at hl 0 rfl) ?_
      refine g9_4 C hw (hF 15 (by decide)) K_f_X9_62 dX9_nextToken_246 ?_
      refine lv_isub hx hb dX9_nextToken_249 ?_
      refine lv_iconst (v := 2) hx hb dX9_nextToken_250 (by decide) ?_
      refine lv_icmp_le (tgt := 258) hx hb dX9_nextToken_251 (by decide) (fun c8 => ?_) (fun c8 => ?_)
      · have h := h.1 c8
        refine lv_iconst (v := 2) hx hb dX9_nextToken_258 (by decide) ?_
        refine p9_6 C hw (hF 15 (by decide)) K_f_X9_69 dX9_nextToken_259 (fun H locs hw => ?_)
        refine lv_goto (tgt := 290) hx hb dX9_nextToken_262 (by decide) ?_
        rw [hQ]
        exact ret_v C hr hlk hw h dX9_nextToken_290
      · have h := h.2 c8
        refine lv_iconst (v := 4) hx hb dX9_nextToken_254 (by decide) ?_
        refine lv_goto (tgt := 259) hx hb dX9_nextToken_255 (by decide) ?_
        refine p9_6 C hw (hF 15 (by decide)) K_f_X9_69 dX9_nextToken_259 (fun H locs hw => ?_)
        refine lv_goto (tgt := 290) hx hb dX9_nextToken_262 (by decide) ?_
        rw [hQ]
        exact ret_v C hr hlk hw h dX9_nextToken_290
    · have h := h.2 c7
      refine lv_aload_n hx hb dX9_nextToken_184 rfl (lv_at hl 0 rfl) ?_
      refine lv_aload_n hx hb dX9_nextToken_185 rfl (lv_at hl 0 rfl) ?_
      refine g9_5 C hw (hF 15 (by decide)) K_f_X9_59 dX9_nextToken_186 ?_
      refine lv_aload_n hx hb dX9_nextToken_189 rfl (lv_at hl 0 rfl) ?_
      refine g9_4 C hw (hF 15 (by decide)) K_f_X9_62 dX9_nextToken_190 ?_
      refine lv_isub hx hb dX9_nextToken_193 ?_
      refine lv_iconst (v := 2) hx hb dX9_nextToken_194 (by decide) ?_
      refine lv_icmp_ge (tgt := 220) hx hb dX9_nextToken_195 (by decide) (fun c9 => ?_) (fun c9 => ?_)
      · have h := h.1 c9
        refine lv_aload_n hx hb dX9_nextToken_220 rfl (lv_at hl 0 rfl) ?_
        refine g9_7 C hw (hF 15 (by decide)) K_f_X9_76 dX9_nextToken_221 ?_
        refine lv_topi (fun y6 ey6 => ?_)
        have h := h y6 ey6
        refine p9_7 C hw (hF 15 (by decide)) K_f_X9_76 dX9_nextToken_224 (fun H locs hw => ?_)
        refine lv_aload_n hx hb dX9_nextToken_227 rfl (lv_at hl 0 rfl) ?_
        refine lv_dup hx hb dX9_nextToken_228 rfl ?_
        refine g9_5 C hw (hF 15 (by decide)) K_f_X9_59 dX9_nextToken_229 ?_
        refine lv_iconst (v := 1) hx hb dX9_nextToken_232 (by decide) ?_
        refine lv_iadd hx hb dX9_nextToken_233 ?_
        refine lv_topi (fun y7 ey7 => ?_)
        have h := h y7 ey7
        refine p9_5 C hw (hF 15 (by decide)) K_f_X9_59 dX9_nextToken_234 (fun H locs hw => ?_)
        refine lv_goto (tgt := 166) hx hb dX9_nextToken_237 (by decide) ?_
        exact h _ _ hw _ (lv_sub hl [0] rfl)
      · have h := h.2 c9
        refine lv_bipush (v := 10) hx hb dX9_nextToken_198 (by decide) ?_
        refine lv_aload_n hx hb dX9_nextToken_200 rfl (lv_at hl 0 rfl) ?_
        refine g9_7 C hw (hF 15 (by decide)) K_f_X9_76 dX9_nextToken_201 ?_
        refine lv_imul hx hb dX9_nextToken_204 ?_
        refine lv_aload_n hx hb dX9_nextToken_205 rfl (lv_at hl 0 rfl) ?_
        refine lv_aload_n hx hb dX9_nextToken_206 rfl (lv_at hl 0 rfl) ?_
        refine g9_5 C hw (hF 15 (by decide)) K_f_X9_59 dX9_nextToken_207 ?_
        refine done_i hw (my_runV (As := [.int (gI w7 15 5)]) (rest := [.int (10 * (gI w7 15 7)), .ref (eA E 15)]) C hw 15 9 (hF 15 (by decide)) rfl rfl (mt_X9_byteAt l C.2.2.2.2.2.2.2 hF _ _ h) K_m_X9_65 K_i_X9_byteAt K_v_X9_byteAt K_n_X9 K_c_X9_byteAt hy_X9_byteAt ⟨Nat.le_of_ble_eq_true rfl, Nat.le_of_ble_eq_true rfl⟩ hl.1 rfl (Nat.le_of_ble_eq_true rfl) dX9_nextToken_210 ⟨Nat.zero_le _, Nat.zero_le _⟩) (fun r8 w8 H locs h hw => ?_)
        refine lv_iadd hx hb dX9_nextToken_213 ?_
        refine lv_bipush (v := 48) hx hb dX9_nextToken_214 (by decide) ?_
        refine lv_isub hx hb dX9_nextToken_216 ?_
        refine lv_goto (tgt := 224) hx hb dX9_nextToken_217 (by decide) ?_
        refine lv_topi (fun y8 ey8 => ?_)
        have h := h y8 ey8
        refine p9_7 C hw (hF 15 (by decide)) K_f_X9_76 dX9_nextToken_224 (fun H locs hw => ?_)
        refine lv_aload_n hx hb dX9_nextToken_227 rfl (lv_at hl 0 rfl) ?_
        refine lv_dup hx hb dX9_nextToken_228 rfl ?_
        refine g9_5 C hw (hF 15 (by decide)) K_f_X9_59 dX9_nextToken_229 ?_
        refine lv_iconst (v := 1) hx hb dX9_nextToken_232 (by decide) ?_
        refine lv_iadd hx hb dX9_nextToken_233 ?_
        refine lv_topi (fun y9 ey9 => ?_)
        have h := h y9 ey9
        refine p9_5 C hw (hF 15 (by decide)) K_f_X9_59 dX9_nextToken_234 (fun H locs hw => ?_)
        refine lv_goto (tgt := 166) hx hb dX9_nextToken_237 (by decide) ?_
        exact h _ _ hw _ (lv_sub hl [0] rfl)
  have h := h ?_
  rotate_left
  · intro w h H locs hw ls hl
    refine lv_aload_n hx hb dX9_nextToken_93 rfl (lv_at hl 0 rfl) ?_
    refine lv_aload_n hx hb dX9_nextToken_94 rfl (lv_at hl 0 rfl) ?_
    refine g9_5 C hw (hF 15 (by decide)) K_f_X9_59 dX9_nextToken_95 ?_
    refine done_i hw (my_runV (As := [.int (gI w 15 5)]) (rest := []) C hw 15 9 (hF 15 (by decide)) rfl rfl (mt_X9_byteAt l C.2.2.2.2.2.2.2 hF _ _ h) K_m_X9_65 K_i_X9_byteAt K_v_X9_byteAt K_n_X9 K_c_X9_byteAt hy_X9_byteAt ⟨Nat.le_of_ble_eq_true rfl, Nat.le_of_ble_eq_true rfl⟩ hl.1 rfl (Nat.le_of_ble_eq_true rfl) dX9_nextToken_98 ⟨Nat.zero_le _, Nat.zero_le _⟩) (fun r9 w9 H locs h hw => ?_)
    refine lv_bipush (v := 97) hx hb dX9_nextToken_101 (by decide) ?_
    refine lv_bipush (v := 122) hx hb dX9_nextToken_103 (by decide) ?_
    refine done_i hw (my_runS (As := [.int r9, .int 97, .int 122]) (rest := []) C hw (mt_X9_within l C.2.2.2.2.2.2.2 hF _ _ _ _ h) K_m_X9_72 K_s_X9_within K_n_X9 K_c_X9_within hy_X9_within ⟨Nat.le_of_ble_eq_true rfl, Nat.le_of_ble_eq_true rfl⟩ hl.1 rfl (Nat.le_of_ble_eq_true rfl) dX9_nextToken_105 ⟨Nat.zero_le _, Nat.zero_le _⟩) (fun r10 w10 H locs h hw => ?_)
    refine lv_if_eq (tgt := 124) hx hb dX9_nextToken_108 (by decide) (fun c10 => ?_) (fun c10 => ?_)
    · have h := h.1 c10
      refine lv_aload_n hx hb dX9_nextToken_124 rfl (lv_at hl 0 rfl) ?_
      refine lv_aload_n hx hb dX9_nextToken_125 rfl (lv_at hl 0 rfl) ?_
      refine g9_5 C hw (hF 15 (by decide)) K_f_X9_59 dX9_nextToken_126 ?_
      refine lv_aload_n hx hb dX9_nextToken_129 rfl (lv_at hl 0 rfl) ?_
      refine g9_4 C hw (hF 15 (by decide)) K_f_X9_62 dX9_nextToken_130 ?_
      refine lv_isub hx hb dX9_nextToken_133 ?_
      refine lv_bipush (v := 8) hx hb dX9_nextToken_134 (by decide) ?_
      refine lv_icmp_le (tgt := 143) hx hb dX9_nextToken_136 (by decide) (fun c11 => ?_) (fun c11 => ?_)
      · have h := h.1 c11
        refine lv_iconst (v := 1) hx hb dX9_nextToken_143 (by decide) ?_
        refine p9_6 C hw (hF 15 (by decide)) K_f_X9_69 dX9_nextToken_144 (fun H locs hw => ?_)
        refine lv_goto (tgt := 290) hx hb dX9_nextToken_147 (by decide) ?_
        rw [hQ]
        exact ret_v C hr hlk hw h dX9_nextToken_290
      · have h := h.2 c11
        refine lv_iconst (v := 4) hx hb dX9_nextToken_139 (by decide) ?_
        refine lv_goto (tgt := 144) hx hb dX9_nextToken_140 (by decide) ?_
        refine p9_6 C hw (hF 15 (by decide)) K_f_X9_69 dX9_nextToken_144 (fun H locs hw => ?_)
        refine lv_goto (tgt := 290) hx hb dX9_nextToken_147 (by decide) ?_
        rw [hQ]
        exact ret_v C hr hlk hw h dX9_nextToken_290
    · have h := h.2 c10
      refine lv_aload_n hx hb dX9_nextToken_111 rfl (lv_at hl 0 rfl) ?_
      refine lv_dup hx hb dX9_nextToken_112 rfl ?_
      refine g9_5 C hw (hF 15 (by decide)) K_f_X9_59 dX9_nextToken_113 ?_
      refine lv_iconst (v := 1) hx hb dX9_nextToken_116 (by decide) ?_
      refine lv_iadd hx hb dX9_nextToken_117 ?_
      refine lv_topi (fun y10 ey10 => ?_)
      have h := h y10 ey10
      refine p9_5 C hw (hF 15 (by decide)) K_f_X9_59 dX9_nextToken_118 (fun H locs hw => ?_)
      refine lv_goto (tgt := 93) hx hb dX9_nextToken_121 (by decide) ?_
      exact h _ _ hw _ (lv_sub hl [0] rfl)
  refine lv_aload_n hx hb dX9_nextToken_0 rfl (lv_at hl 0 rfl) ?_
  refine lv_aload_n hx hb dX9_nextToken_1 rfl (lv_at hl 0 rfl) ?_
  refine g9_5 C hw (hF 15 (by decide)) K_f_X9_59 dX9_nextToken_2 ?_
  refine lv_topi (fun y1 ey1 => ?_)
  have h := h y1 ey1
  refine p9_4 C hw (hF 15 (by decide)) K_f_X9_62 dX9_nextToken_5 (fun H locs hw => ?_)
  exact h _ _ hw _ (lv_sub hl [0] rfl)
theorem hy_X9_must : yX9_must.cls ≠ "java/lang/invoke/MethodHandle" ∧ yX9_must.cls ≠ "java/lang/invoke/VarHandle" ∧ (parseMethodDescriptor yX9_must.desc).map (fun d => d.parameters.length) = some 2 := by decide +kernel
def wp_X9_must (w : Wd) (p1 : Int32) (p2 : Int32) (Post : Int32 → Wd → Prop) : Prop :=
  ((gI w 15 8) = 0 → ((p1 = 0 → (∀ y1 : Int32, y1 = gI (sI w 15 8 p2) 15 4 → (((gI (sI (sI w 15 8 p2) 15 9 y1) 15 8) = 0 → (Post 1 (sI (sI w 15 8 p2) 15 9 y1))) ∧ (¬ (gI (sI (sI w 15 8 p2) 15 9 y1) 15 8) = 0 → (Post 0 (sI (sI w 15 8 p2) 15 9 y1)))))) ∧ (¬ p1 = 0 → (((gI w 15 8) = 0 → (Post 1 w)) ∧ (¬ (gI w 15 8) = 0 → (Post 0 w)))))) ∧ (¬ (gI w 15 8) = 0 → (((gI w 15 8) = 0 → (Post 1 w)) ∧ (¬ (gI w 15 8) = 0 → (Post 0 w))))
set_option maxHeartbeats 4000000 in
set_option maxRecDepth 100000 in
theorem mt_X9_must (l : Launch) {E : En} (hI : Inj E) (hF : ∀ o, (15 ≤ o ∧ o < 25) → o ∈ eL E) (w : Wd) (p1 : Int32) (p2 : Int32) {Post : Int32 → Wd → Prop} (h : wp_X9_must w p1 p2 Post) : MI l E yX9_must cX9_must 3 (some .boolean) 0 0 [.ref (eA E 15), .int p1, .int p2] w Post := by
  refine MG.intro hI (by decide +kernel) (Nat.le_of_ble_eq_true rfl) ?_
  intro p e s m args below meth c Q C hr hlk hQ hw ls hl
  have hx := C.1
  have hb := C.2.1
  have hl : lv_has ls 3 [(0, .ref (eA E 15)), (1, .int p1), (2, .int p2)] := hl
  unfold wp_X9_must at h
  refine lv_aload_n hx hb dX9_must_0 rfl (lv_at hl 0 rfl) ?_
  refine g9_8 C hw (hF 15 (by decide)) K_f_X9_79 dX9_must_1 ?_
  refine lv_if_ne (tgt := 24) hx hb dX9_must_4 (by decide) (fun c1 => ?_) (fun c1 => ?_)
  · have h := h.2 c1
    refine lv_aload_n hx hb dX9_must_24 rfl (lv_at hl 0 rfl) ?_
    refine g9_8 C hw (hF 15 (by decide)) K_f_X9_79 dX9_must_25 ?_
    refine lv_if_ne (tgt := 35) hx hb dX9_must_28 (by decide) (fun c2 => ?_) (fun c2 => ?_)
    · have h := h.2 c2
      refine lv_iconst (v := 0) hx hb dX9_must_35 (by decide) ?_
      rw [hQ]
      exact ret_z C hr hlk hw h (by decide) dX9_must_36
    · have h := h.1 c2
      refine lv_iconst (v := 1) hx hb dX9_must_31 (by decide) ?_
      refine lv_goto (tgt := 36) hx hb dX9_must_32 (by decide) ?_
      rw [hQ]
      exact ret_z C hr hlk hw h (by decide) dX9_must_36
  · have h := h.1 c1
    refine lv_iload_n hx hb dX9_must_7 rfl (lv_at hl 1 rfl) ?_
    refine lv_if_ne (tgt := 24) hx hb dX9_must_8 (by decide) (fun c3 => ?_) (fun c3 => ?_)
    · have h := h.2 c3
      refine lv_aload_n hx hb dX9_must_24 rfl (lv_at hl 0 rfl) ?_
      refine g9_8 C hw (hF 15 (by decide)) K_f_X9_79 dX9_must_25 ?_
      refine lv_if_ne (tgt := 35) hx hb dX9_must_28 (by decide) (fun c4 => ?_) (fun c4 => ?_)
      · have h := h.2 c4
        refine lv_iconst (v := 0) hx hb dX9_must_35 (by decide) ?_
        rw [hQ]
        exact ret_z C hr hlk hw h (by decide) dX9_must_36
      · have h := h.1 c4
        refine lv_iconst (v := 1) hx hb dX9_must_31 (by decide) ?_
        refine lv_goto (tgt := 36) hx hb dX9_must_32 (by decide) ?_
        rw [hQ]
        exact ret_z C hr hlk hw h (by decide) dX9_must_36
    · have h := h.1 c3
      refine lv_aload_n hx hb dX9_must_11 rfl (lv_at hl 0 rfl) ?_
      refine lv_iload_n hx hb dX9_must_12 rfl (lv_at hl 2 rfl) ?_
      refine p9_8 C hw (hF 15 (by decide)) K_f_X9_79 dX9_must_13 (fun H locs hw => ?_)
      refine lv_aload_n hx hb dX9_must_16 rfl (lv_at hl 0 rfl) ?_
      refine lv_aload_n hx hb dX9_must_17 rfl (lv_at hl 0 rfl) ?_
      refine g9_4 C hw (hF 15 (by decide)) K_f_X9_62 dX9_must_18 ?_
      refine lv_topi (fun y1 ey1 => ?_)
      have h := h y1 ey1
      refine p9_9 C hw (hF 15 (by decide)) K_f_X9_82 dX9_must_21 (fun H locs hw => ?_)
      refine lv_aload_n hx hb dX9_must_24 rfl (lv_at hl 0 rfl) ?_
      refine g9_8 C hw (hF 15 (by decide)) K_f_X9_79 dX9_must_25 ?_
      refine lv_if_ne (tgt := 35) hx hb dX9_must_28 (by decide) (fun c5 => ?_) (fun c5 => ?_)
      · have h := h.2 c5
        refine lv_iconst (v := 0) hx hb dX9_must_35 (by decide) ?_
        rw [hQ]
        exact ret_z C hr hlk hw h (by decide) dX9_must_36
      · have h := h.1 c5
        refine lv_iconst (v := 1) hx hb dX9_must_31 (by decide) ?_
        refine lv_goto (tgt := 36) hx hb dX9_must_32 (by decide) ?_
        rw [hQ]
        exact ret_z C hr hlk hw h (by decide) dX9_must_36
theorem hy_X9_look : yX9_look.cls ≠ "java/lang/invoke/MethodHandle" ∧ yX9_look.cls ≠ "java/lang/invoke/VarHandle" ∧ (parseMethodDescriptor yX9_look.desc).map (fun d => d.parameters.length) = some 2 := by decide +kernel
def wp_X9_look (w : Wd) (p1 : Int32) (p2 : Int32) (Post : Int32 → Wd → Prop) : Prop :=
  ((gI w 15 6) = 2 → (wp_X9_must w 1 1 (fun r4 w4 => (r4 = 0 → (Post p1 w4)) ∧ (¬ r4 = 0 → (wp_X9_within w4 (gI w4 15 7) p1 p2 (fun r5 w5 => wp_X9_must w5 r5 2 (fun r6 w6 => (r6 = 0 → (Post p1 w6)) ∧ (¬ r6 = 0 → (Post (gI w6 15 7) w6))))))))) ∧ (¬ (gI w 15 6) = 2 → (wp_X9_must w 0 1 (fun r1 w1 => (r1 = 0 → (Post p1 w1)) ∧ (¬ r1 = 0 → (wp_X9_within w1 (gI w1 15 7) p1 p2 (fun r2 w2 => wp_X9_must w2 r2 2 (fun r3 w3 => (r3 = 0 → (Post p1 w3)) ∧ (¬ r3 = 0 → (Post (gI w3 15 7) w3)))))))))
set_option maxHeartbeats 4000000 in
set_option maxRecDepth 100000 in
theorem mt_X9_look (l : Launch) {E : En} (hI : Inj E) (hF : ∀ o, (15 ≤ o ∧ o < 25) → o ∈ eL E) (w : Wd) (p1 : Int32) (p2 : Int32) {Post : Int32 → Wd → Prop} (h : wp_X9_look w p1 p2 Post) : MI l E yX9_look cX9_look 3 (some .int) 1 22 [.ref (eA E 15), .int p1, .int p2] w Post := by
  refine MG.intro hI (by decide +kernel) (Nat.le_of_ble_eq_true rfl) ?_
  intro p e s m args below meth c Q C hr hlk hQ hw ls hl
  have hx := C.1
  have hb := C.2.1
  have hl : lv_has ls 3 [(0, .ref (eA E 15)), (1, .int p1), (2, .int p2)] := hl
  unfold wp_X9_look at h
  refine lv_aload_n hx hb dX9_look_0 rfl (lv_at hl 0 rfl) ?_
  refine lv_aload_n hx hb dX9_look_1 rfl (lv_at hl 0 rfl) ?_
  refine g9_6 C hw (hF 15 (by decide)) K_f_X9_69 dX9_look_2 ?_
  refine lv_iconst (v := 2) hx hb dX9_look_5 (by decide) ?_
  refine lv_icmp_ne (tgt := 13) hx hb dX9_look_6 (by decide) (fun c1 => ?_) (fun c1 => ?_)
  · have h := h.2 c1
    refine lv_iconst (v := 0) hx hb dX9_look_13 (by decide) ?_
    refine lv_iconst (v := 1) hx hb dX9_look_14 (by decide) ?_
    refine done_i hw (my_runV (As := [.int 0, .int 1]) (rest := []) C hw 15 9 (hF 15 (by decide)) rfl rfl (mt_X9_must l C.2.2.2.2.2.2.2 hF _ _ _ h) K_m_X9_94 K_i_X9_must K_v_X9_must K_n_X9 K_c_X9_must hy_X9_must ⟨Nat.le_of_ble_eq_true rfl, Nat.le_of_ble_eq_true rfl⟩ hl.1 rfl (Nat.le_of_ble_eq_true rfl) dX9_look_15 ⟨Nat.zero_le _, Nat.zero_le _⟩) (fun r1 w1 H locs h hw => ?_)
    refine lv_if_eq (tgt := 38) hx hb dX9_look_18 (by decide) (fun c2 => ?_) (fun c2 => ?_)
    · have h := h.1 c2
      refine lv_iload_n hx hb dX9_look_38 rfl (lv_at hl 1 rfl) ?_
      rw [hQ]
      exact ret_i C hr hlk hw h dX9_look_39
    · have h := h.2 c2
      refine lv_aload_n hx hb dX9_look_21 rfl (lv_at hl 0 rfl) ?_
      refine lv_aload_n hx hb dX9_look_22 rfl (lv_at hl 0 rfl) ?_
      refine g9_7 C hw (hF 15 (by decide)) K_f_X9_76 dX9_look_23 ?_
      refine lv_iload_n hx hb dX9_look_26 rfl (lv_at hl 1 rfl) ?_
      refine lv_iload_n hx hb dX9_look_27 rfl (lv_at hl 2 rfl) ?_
      refine done_i hw (my_runS (As := [.int (gI w1 15 7), .int p1, .int p2]) (rest := [.ref (eA E 15)]) C hw (mt_X9_within l C.2.2.2.2.2.2.2 hF _ _ _ _ h) K_m_X9_72 K_s_X9_within K_n_X9 K_c_X9_within hy_X9_within ⟨Nat.le_of_ble_eq_true rfl, Nat.le_of_ble_eq_true rfl⟩ hl.1 rfl (Nat.le_of_ble_eq_true rfl) dX9_look_28 ⟨Nat.zero_le _, Nat.zero_le _⟩) (fun r2 w2 H locs h hw => ?_)
      refine lv_iconst (v := 2) hx hb dX9_look_31 (by decide) ?_
      refine done_i hw (my_runV (As := [.int r2, .int 2]) (rest := []) C hw 15 9 (hF 15 (by decide)) rfl rfl (mt_X9_must l C.2.2.2.2.2.2.2 hF _ _ _ h) K_m_X9_94 K_i_X9_must K_v_X9_must K_n_X9 K_c_X9_must hy_X9_must ⟨Nat.le_of_ble_eq_true rfl, Nat.le_of_ble_eq_true rfl⟩ hl.1 rfl (Nat.le_of_ble_eq_true rfl) dX9_look_32 ⟨Nat.zero_le _, Nat.zero_le _⟩) (fun r3 w3 H locs h hw => ?_)
      refine lv_if_ne (tgt := 40) hx hb dX9_look_35 (by decide) (fun c3 => ?_) (fun c3 => ?_)
      · have h := h.2 c3
        refine lv_aload_n hx hb dX9_look_40 rfl (lv_at hl 0 rfl) ?_
        refine g9_7 C hw (hF 15 (by decide)) K_f_X9_76 dX9_look_41 ?_
        rw [hQ]
        exact ret_i C hr hlk hw h dX9_look_44
      · have h := h.1 c3
        refine lv_iload_n hx hb dX9_look_38 rfl (lv_at hl 1 rfl) ?_
        rw [hQ]
        exact ret_i C hr hlk hw h dX9_look_39
  · have h := h.1 c1
    refine lv_iconst (v := 1) hx hb dX9_look_9 (by decide) ?_
    refine lv_goto (tgt := 14) hx hb dX9_look_10 (by decide) ?_
    refine lv_iconst (v := 1) hx hb dX9_look_14 (by decide) ?_
    refine done_i hw (my_runV (As := [.int 1, .int 1]) (rest := []) C hw 15 9 (hF 15 (by decide)) rfl rfl (mt_X9_must l C.2.2.2.2.2.2.2 hF _ _ _ h) K_m_X9_94 K_i_X9_must K_v_X9_must K_n_X9 K_c_X9_must hy_X9_must ⟨Nat.le_of_ble_eq_true rfl, Nat.le_of_ble_eq_true rfl⟩ hl.1 rfl (Nat.le_of_ble_eq_true rfl) dX9_look_15 ⟨Nat.zero_le _, Nat.zero_le _⟩) (fun r4 w4 H locs h hw => ?_)
    refine lv_if_eq (tgt := 38) hx hb dX9_look_18 (by decide) (fun c4 => ?_) (fun c4 => ?_)
    · have h := h.1 c4
      refine lv_iload_n hx hb dX9_look_38 rfl (lv_at hl 1 rfl) ?_
      rw [hQ]
      exact ret_i C hr hlk hw h dX9_look_39
    · have h := h.2 c4
      refine lv_aload_n hx hb dX9_look_21 rfl (lv_at hl 0 rfl) ?_
      refine lv_aload_n hx hb dX9_look_22 rfl (lv_at hl 0 rfl) ?_
      refine g9_7 C hw (hF 15 (by decide)) K_f_X9_76 dX9_look_23 ?_
      refine lv_iload_n hx hb dX9_look_26 rfl (lv_at hl 1 rfl) ?_
      refine lv_iload_n hx hb dX9_look_27 rfl (lv_at hl 2 rfl) ?_
      refine done_i hw (my_runS (As := [.int (gI w4 15 7), .int p1, .int p2]) (rest := [.ref (eA E 15)]) C hw (mt_X9_within l C.2.2.2.2.2.2.2 hF _ _ _ _ h) K_m_X9_72 K_s_X9_within K_n_X9 K_c_X9_within hy_X9_within ⟨Nat.le_of_ble_eq_true rfl, Nat.le_of_ble_eq_true rfl⟩ hl.1 rfl (Nat.le_of_ble_eq_true rfl) dX9_look_28 ⟨Nat.zero_le _, Nat.zero_le _⟩) (fun r5 w5 H locs h hw => ?_)
      refine lv_iconst (v := 2) hx hb dX9_look_31 (by decide) ?_
      refine done_i hw (my_runV (As := [.int r5, .int 2]) (rest := []) C hw 15 9 (hF 15 (by decide)) rfl rfl (mt_X9_must l C.2.2.2.2.2.2.2 hF _ _ _ h) K_m_X9_94 K_i_X9_must K_v_X9_must K_n_X9 K_c_X9_must hy_X9_must ⟨Nat.le_of_ble_eq_true rfl, Nat.le_of_ble_eq_true rfl⟩ hl.1 rfl (Nat.le_of_ble_eq_true rfl) dX9_look_32 ⟨Nat.zero_le _, Nat.zero_le _⟩) (fun r6 w6 H locs h hw => ?_)
      refine lv_if_ne (tgt := 40) hx hb dX9_look_35 (by decide) (fun c5 => ?_) (fun c5 => ?_)
      · have h := h.2 c5
        refine lv_aload_n hx hb dX9_look_40 rfl (lv_at hl 0 rfl) ?_
        refine g9_7 C hw (hF 15 (by decide)) K_f_X9_76 dX9_look_41 ?_
        rw [hQ]
        exact ret_i C hr hlk hw h dX9_look_44
      · have h := h.1 c5
        refine lv_iload_n hx hb dX9_look_38 rfl (lv_at hl 1 rfl) ?_
        rw [hQ]
        exact ret_i C hr hlk hw h dX9_look_39
theorem hy_X9_goOn : yX9_goOn.cls ≠ "java/lang/invoke/MethodHandle" ∧ yX9_goOn.cls ≠ "java/lang/invoke/VarHandle" ∧ (parseMethodDescriptor yX9_goOn.desc).map (fun d => d.parameters.length) = some 0 := by decide +kernel
def wp_X9_goOn (w : Wd) (Post : Wd → Prop) : Prop :=
  ((gI w 15 8) = 0 → (wp_X9_nextToken w (fun w1 => Post w1))) ∧ (¬ (gI w 15 8) = 0 → (Post w))
set_option maxHeartbeats 4000000 in
set_option maxRecDepth 100000 in
theorem mt_X9_goOn (l : Launch) {E : En} (hI : Inj E) (hF : ∀ o, (15 ≤ o ∧ o < 25) → o ∈ eL E) (w : Wd) {Post : Wd → Prop} (h : wp_X9_goOn w Post) : MV l E yX9_goOn cX9_goOn 1 none 2 43 [.ref (eA E 15)] w Post := by
  refine MG.intro hI (by decide +kernel) (Nat.le_of_ble_eq_true rfl) ?_
  intro p e s m args below meth c Q C hr hlk hQ hw ls hl
  have hx := C.1
  have hb := C.2.1
  have hl : lv_has ls 1 [(0, .ref (eA E 15))] := hl
  unfold wp_X9_goOn at h
  refine lv_aload_n hx hb dX9_goOn_0 rfl (lv_at hl 0 rfl) ?_
  refine g9_8 C hw (hF 15 (by decide)) K_f_X9_79 dX9_goOn_1 ?_
  refine lv_if_ne (tgt := 11) hx hb dX9_goOn_4 (by decide) (fun c1 => ?_) (fun c1 => ?_)
  · have h := h.2 c1
    rw [hQ]
    exact ret_v C hr hlk hw h dX9_goOn_11
  · have h := h.1 c1
    refine lv_aload_n hx hb dX9_goOn_7 rfl (lv_at hl 0 rfl) ?_
    refine done_v hw (my_runV (As := []) (rest := []) C hw 15 9 (hF 15 (by decide)) rfl rfl (mt_X9_nextToken l C.2.2.2.2.2.2.2 hF _ h) K_m_X9_98 K_i_X9_nextToken K_v_X9_nextToken K_n_X9 K_c_X9_nextToken hy_X9_nextToken ⟨Nat.le_of_ble_eq_true rfl, Nat.le_of_ble_eq_true rfl⟩ hl.1 rfl (Nat.le_of_ble_eq_true rfl) dX9_goOn_8 ⟨Nat.zero_le _, Nat.zero_le _⟩) (fun w1 H locs h hw => ?_)
    rw [hQ]
    exact ret_v C hr hlk hw h dX9_goOn_11
theorem hy_X9_read : yX9_read.cls ≠ "java/lang/invoke/MethodHandle" ∧ yX9_read.cls ≠ "java/lang/invoke/VarHandle" ∧ (parseMethodDescriptor yX9_read.desc).map (fun d => d.parameters.length) = some 2 := by decide +kernel
def wp_X9_read (w : Wd) (p1 : Int32) (p2 : Int32) (Post : Int32 → Wd → Prop) : Prop :=
  wp_X9_look w p1 p2 (fun r1 w1 => wp_X9_goOn w1 (fun w2 => Post r1 w2))
set_option maxHeartbeats 4000000 in
set_option maxRecDepth 100000 in
theorem mt_X9_read (l : Launch) {E : En} (hI : Inj E) (hF : ∀ o, (15 ≤ o ∧ o < 25) → o ∈ eL E) (w : Wd) (p1 : Int32) (p2 : Int32) {Post : Int32 → Wd → Prop} (h : wp_X9_read w p1 p2 Post) : MI l E yX9_read cX9_read 4 (some .int) 3 63 [.ref (eA E 15), .int p1, .int p2] w Post := by
  refine MG.intro hI (by decide +kernel) (Nat.le_of_ble_eq_true rfl) ?_
  intro p e s m args below meth c Q C hr hlk hQ hw ls hl
  have hx := C.1
  have hb := C.2.1
  have hl : lv_has ls 4 [(0, .ref (eA E 15)), (1, .int p1), (2, .int p2)] := hl
  unfold wp_X9_read at h
  refine lv_aload_n hx hb dX9_read_0 rfl (lv_at hl 0 rfl) ?_
  refine lv_iload_n hx hb dX9_read_1 rfl (lv_at hl 1 rfl) ?_
  refine lv_iload_n hx hb dX9_read_2 rfl (lv_at hl 2 rfl) ?_
  refine done_i hw (my_runV (As := [.int p1, .int p2]) (rest := []) C hw 15 9 (hF 15 (by decide)) rfl rfl (mt_X9_look l C.2.2.2.2.2.2.2 hF _ _ _ h) K_m_X9_101 K_i_X9_look K_v_X9_look K_n_X9 K_c_X9_look hy_X9_look ⟨Nat.le_of_ble_eq_true rfl, Nat.le_of_ble_eq_true rfl⟩ hl.1 rfl (Nat.le_of_ble_eq_true rfl) dX9_read_3 ⟨Nat.zero_le _, Nat.zero_le _⟩) (fun r1 w1 H locs h hw => ?_)
  refine lv_istore_n (lv' := [(3, .int r1), (0, .ref (eA E 15)), (1, .int p1), (2, .int p2)]) hx hb dX9_read_6 rfl hl (by decide) rfl (fun ls hl => ?_)
  refine lv_aload_n hx hb dX9_read_7 rfl (lv_at hl 1 rfl) ?_
  refine done_v hw (my_runV (As := []) (rest := []) C hw 15 9 (hF 15 (by decide)) rfl rfl (mt_X9_goOn l C.2.2.2.2.2.2.2 hF _ h) K_m_X9_105 K_i_X9_goOn K_v_X9_goOn K_n_X9 K_c_X9_goOn hy_X9_goOn ⟨Nat.le_of_ble_eq_true rfl, Nat.le_of_ble_eq_true rfl⟩ hl.1 rfl (Nat.le_of_ble_eq_true rfl) dX9_read_8 ⟨Nat.zero_le _, Nat.zero_le _⟩) (fun w2 H locs h hw => ?_)
  refine lv_iload_n hx hb dX9_read_11 rfl (lv_at hl 0 rfl) ?_
  rw [hQ]
  exact ret_i C hr hlk hw h dX9_read_12
theorem hy_X9_setDefaults : yX9_setDefaults.cls ≠ "java/lang/invoke/MethodHandle" ∧ yX9_setDefaults.cls ≠ "java/lang/invoke/VarHandle" ∧ (parseMethodDescriptor yX9_setDefaults.desc).map (fun d => d.parameters.length) = some 0 := by decide +kernel
def wp_X9_setDefaults (w : Wd) (Post : Wd → Prop) : Prop :=
  ∀ J2 : Int32 → Wd → Prop, ∀ J24 : Int32 → Wd → Prop, ∀ J31 : Int32 → Int32 → Wd → Prop, (∀ (x1 : Int32) (w : Wd), ((140 ≤ x1 → (J24 0 w)) ∧ (¬ 140 ≤ x1 → (vp_in x1 140 ∧ (∀ y1 : Int32, y1 = x1 + 1 → (J2 y1 (sA w 17 x1.toNatClampNeg 0)))))) → J2 x1 w) →
  (∀ (x1 : Int32) (w : Wd), ((2 ≤ x1 → (Post (sI (sI (sA w 17 57 ((-1))) 15 11 0) 15 12 0))) ∧ (¬ 2 ≤ x1 → (J31 x1 0 w))) → J24 x1 w) →
  (∀ (x1 : Int32) (x2 : Int32) (w : Wd), ((3 ≤ x2 → (∀ y2 : Int32, y2 = x1 + 1 → (J24 y2 w))) ∧ (¬ 3 ≤ x2 → (vp_in ((43 + (6 * x1)) + x2) 140 ∧ (∀ y3 : Int32, y3 = x2 + 1 → (J31 x1 y3 (sA w 17 (((43 + (6 * x1)) + x2).toNatClampNeg) 1)))))) → J31 x1 x2 w) →
  J2 0 w
set_option maxHeartbeats 4000000 in
set_option maxRecDepth 100000 in
theorem mt_X9_setDefaults (l : Launch) {E : En} (hI : Inj E) (hF : ∀ o, (15 ≤ o ∧ o < 25) → o ∈ eL E) (w : Wd) {Post : Wd → Prop} (h : wp_X9_setDefaults w Post) : MV l E yX9_setDefaults cX9_setDefaults 3 none 0 0 [.ref (eA E 15)] w Post := by
  refine MG.intro hI (by decide +kernel) (Nat.le_of_ble_eq_true rfl) ?_
  intro p e s m args below meth c Q C hr hlk hQ hw ls hl
  have hx := C.1
  have hb := C.2.1
  have hl : lv_has ls 3 [(0, .ref (eA E 15))] := hl
  unfold wp_X9_setDefaults at h
  have h := h (fun x1 w => Jp E p l e (Rm 0 0) s m args below meth c Q 3 2 [(0, .ref (eA E 15)), (1, .int x1)] w)
  have h := h (fun x1 w => Jp E p l e (Rm 0 0) s m args below meth c Q 3 24 [(0, .ref (eA E 15)), (1, .int x1)] w)
  have h := h (fun x1 x2 w => Jp E p l e (Rm 0 0) s m args below meth c Q 3 31 [(0, .ref (eA E 15)), (1, .int x1), (2, .int x2)] w)
  have h := h ?_
  rotate_left
  · intro x1 w h H locs hw ls hl
    refine lv_iload_n hx hb dX9_setDefaults_2 rfl (lv_at hl 1 rfl) ?_
    refine lv_sipush (v := 140) hx hb dX9_setDefaults_3 (by decide) ?_
    refine lv_icmp_ge (tgt := 22) hx hb dX9_setDefaults_6 (by decide) (fun c1 => ?_) (fun c1 => ?_)
    · have h := h.1 c1
      refine lv_iconst (v := 0) hx hb dX9_setDefaults_22 (by decide) ?_
      refine lv_istore_n (lv' := [(1, .int 0), (0, .ref (eA E 15))]) hx hb dX9_setDefaults_23 rfl hl (by decide) rfl (fun ls hl => ?_)
      exact h _ _ hw _ (lv_sub hl [1, 0] rfl)
    · have h := h.2 c1
      refine lv_aload_n hx hb dX9_setDefaults_9 rfl (lv_at hl 0 rfl) ?_
      refine g9_10 C hw (hF 15 (by decide)) K_f_X9_13 dX9_setDefaults_10 ?_
      refine lv_iload_n hx hb dX9_setDefaults_13 rfl (lv_at hl 1 rfl) ?_
      refine lv_iconst (v := 0) hx hb dX9_setDefaults_14 (by decide) ?_
      obtain ⟨hi1, h⟩ := h
      refine r_iast C hw 17 140 (hF 17 (by decide)) (fun _ => rfl) hi1 dX9_setDefaults_15 (fun H locs hw => ?_)
      obtain ⟨y1, ey1⟩ : ∃ y : Int32, y = x1 + 1 := ⟨_, rfl⟩
      have h := h y1 ey1
      refine lv_iinc (v := y1) (lv' := [(1, .int y1), (0, .ref (eA E 15))]) hx hb dX9_setDefaults_16 hl (k := 1) rfl (by rw [ey1]; first | rfl | decide) (by decide) rfl (fun ls hl => ?_)
      refine lv_goto (tgt := 2) hx hb dX9_setDefaults_19 (by decide) ?_
      exact h _ _ hw _ (lv_sub hl [1, 0] rfl)
  have h := h ?_
  rotate_left
  · intro x1 w h H locs hw ls hl
    refine lv_iload_n hx hb dX9_setDefaults_24 rfl (lv_at hl 1 rfl) ?_
    refine lv_iconst (v := 2) hx hb dX9_setDefaults_25 (by decide) ?_
    refine lv_icmp_ge (tgt := 63) hx hb dX9_setDefaults_26 (by decide) (fun c2 => ?_) (fun c2 => ?_)
    · have h := h.1 c2
      refine lv_aload_n hx hb dX9_setDefaults_63 rfl (lv_at hl 0 rfl) ?_
      refine g9_10 C hw (hF 15 (by decide)) K_f_X9_13 dX9_setDefaults_64 ?_
      refine lv_bipush (v := 57) hx hb dX9_setDefaults_67 (by decide) ?_
      refine lv_iconst (v := (-1)) hx hb dX9_setDefaults_69 (by decide) ?_
      refine r_iast C hw 17 140 (hF 17 (by decide)) (fun _ => rfl) (vp_lit (by decide)) dX9_setDefaults_70 (fun H locs hw => ?_)
      refine lv_aload_n hx hb dX9_setDefaults_71 rfl (lv_at hl 0 rfl) ?_
      refine lv_iconst (v := 0) hx hb dX9_setDefaults_72 (by decide) ?_
      refine p9_11 C hw (hF 15 (by decide)) (by decide) K_f_X9_108 dX9_setDefaults_73 (fun H locs hw => ?_)
      refine lv_aload_n hx hb dX9_setDefaults_76 rfl (lv_at hl 0 rfl) ?_
      refine lv_iconst (v := 0) hx hb dX9_setDefaults_77 (by decide) ?_
      refine p9_12 C hw (hF 15 (by decide)) (by decide) K_f_X9_112 dX9_setDefaults_78 (fun H locs hw => ?_)
      rw [hQ]
      exact ret_v C hr hlk hw h dX9_setDefaults_81
    · have h := h.2 c2
      refine lv_iconst (v := 0) hx hb dX9_setDefaults_29 (by decide) ?_
      refine lv_istore_n (lv' := [(2, .int 0), (0, .ref (eA E 15)), (1, .int x1)]) hx hb dX9_setDefaults_30 rfl hl (by decide) rfl (fun ls hl => ?_)
      exact h _ _ hw _ (lv_sub hl [1, 2, 0] rfl)
  have h := h ?_
  rotate_left
  · intro x1 x2 w h H locs hw ls hl
    refine lv_iload_n hx hb dX9_setDefaults_31 rfl (lv_at hl 2 rfl) ?_
    refine lv_iconst (v := 3) hx hb dX9_setDefaults_32 (by decide) ?_
    refine lv_icmp_ge (tgt := 57) hx hb dX9_setDefaults_33 (by decide) (fun c3 => ?_) (fun c3 => ?_)
    · have h := h.1 c3
      obtain ⟨y2, ey2⟩ : ∃ y : Int32, y = x1 + 1 := ⟨_, rfl⟩
      have h := h y2 ey2
      refine lv_iinc (v := y2) (lv' := [(1, .int y2), (0, .ref (eA E 15)), (2, .int x2)]) hx hb dX9_setDefaults_57 hl (k := 1) rfl (by rw [ey2]; first | rfl | decide) (by decide) rfl (fun ls hl => ?_)
      refine lv_goto (tgt := 24) hx hb dX9_setDefaults_60 (by decide) ?_
      exact h _ _ hw _ (lv_sub hl [1, 0] rfl)
    · have h := h.2 c3
      refine lv_aload_n hx hb dX9_setDefaults_36 rfl (lv_at hl 0 rfl) ?_
      refine g9_10 C hw (hF 15 (by decide)) K_f_X9_13 dX9_setDefaults_37 ?_
      refine lv_bipush (v := 43) hx hb dX9_setDefaults_40 (by decide) ?_
      refine lv_bipush (v := 6) hx hb dX9_setDefaults_42 (by decide) ?_
      refine lv_iload_n hx hb dX9_setDefaults_44 rfl (lv_at hl 1 rfl) ?_
      refine lv_imul hx hb dX9_setDefaults_45 ?_
      refine lv_iadd hx hb dX9_setDefaults_46 ?_
      refine lv_iload_n hx hb dX9_setDefaults_47 rfl (lv_at hl 2 rfl) ?_
      refine lv_iadd hx hb dX9_setDefaults_48 ?_
      refine lv_iconst (v := 1) hx hb dX9_setDefaults_49 (by decide) ?_
      obtain ⟨hi3, h⟩ := h
      refine r_iast C hw 17 140 (hF 17 (by decide)) (fun _ => rfl) hi3 dX9_setDefaults_50 (fun H locs hw => ?_)
      obtain ⟨y3, ey3⟩ : ∃ y : Int32, y = x2 + 1 := ⟨_, rfl⟩
      have h := h y3 ey3
      refine lv_iinc (v := y3) (lv' := [(2, .int y3), (0, .ref (eA E 15)), (1, .int x1)]) hx hb dX9_setDefaults_51 hl (k := 2) rfl (by rw [ey3]; first | rfl | decide) (by decide) rfl (fun ls hl => ?_)
      refine lv_goto (tgt := 31) hx hb dX9_setDefaults_54 (by decide) ?_
      exact h _ _ hw _ (lv_sub hl [1, 2, 0] rfl)
  refine lv_iconst (v := 0) hx hb dX9_setDefaults_0 (by decide) ?_
  refine lv_istore_n (lv' := [(1, .int 0), (0, .ref (eA E 15))]) hx hb dX9_setDefaults_1 rfl hl (by decide) rfl (fun ls hl => ?_)
  exact h _ _ hw _ (lv_sub hl [1, 0] rfl)
theorem hy_X9_takeDraft : yX9_takeDraft.cls ≠ "java/lang/invoke/MethodHandle" ∧ yX9_takeDraft.cls ≠ "java/lang/invoke/VarHandle" ∧ (parseMethodDescriptor yX9_takeDraft.desc).map (fun d => d.parameters.length) = some 0 := by decide +kernel
def wp_X9_takeDraft (w : Wd) (Post : Wd → Prop) : Prop :=
  ∀ J2 : Int32 → Wd → Prop, (∀ (x1 : Int32) (w : Wd), ((140 ≤ x1 → (Post (sA (sA (sI w 15 15 0) 21 0 (vp_nar .boolean 0)) 21 1 (vp_nar .boolean 0)))) ∧ (¬ 140 ≤ x1 → (vp_in x1 140 ∧ (∀ y1 : Int32, y1 = gA w 17 x1.toNatClampNeg → (vp_in x1 140 ∧ (∀ y2 : Int32, y2 = x1 + 1 → (J2 y2 (sA w 18 x1.toNatClampNeg y1)))))))) → J2 x1 w) →
  J2 0 w
set_option maxHeartbeats 4000000 in
set_option maxRecDepth 100000 in
theorem mt_X9_takeDraft (l : Launch) {E : En} (hI : Inj E) (hF : ∀ o, (15 ≤ o ∧ o < 25) → o ∈ eL E) (w : Wd) {Post : Wd → Prop} (h : wp_X9_takeDraft w Post) : MV l E yX9_takeDraft cX9_takeDraft 2 none 0 0 [.ref (eA E 15)] w Post := by
  refine MG.intro hI (by decide +kernel) (Nat.le_of_ble_eq_true rfl) ?_
  intro p e s m args below meth c Q C hr hlk hQ hw ls hl
  have hx := C.1
  have hb := C.2.1
  have hl : lv_has ls 2 [(0, .ref (eA E 15))] := hl
  unfold wp_X9_takeDraft at h
  have h := h (fun x1 w => Jp E p l e (Rm 0 0) s m args below meth c Q 2 2 [(0, .ref (eA E 15)), (1, .int x1)] w)
  have h := h ?_
  rotate_left
  · intro x1 w h H locs hw ls hl
    refine lv_iload_n hx hb dX9_takeDraft_2 rfl (lv_at hl 1 rfl) ?_
    refine lv_sipush (v := 140) hx hb dX9_takeDraft_3 (by decide) ?_
    refine lv_icmp_ge (tgt := 27) hx hb dX9_takeDraft_6 (by decide) (fun c1 => ?_) (fun c1 => ?_)
    · have h := h.1 c1
      refine lv_aload_n hx hb dX9_takeDraft_27 rfl (lv_at hl 0 rfl) ?_
      refine lv_iconst (v := 0) hx hb dX9_takeDraft_28 (by decide) ?_
      refine p9_15 C hw (hF 15 (by decide)) K_f_X9_115 dX9_takeDraft_29 (fun H locs hw => ?_)
      refine lv_aload_n hx hb dX9_takeDraft_32 rfl (lv_at hl 0 rfl) ?_
      refine g9_17 C hw (hF 15 (by decide)) K_f_X9_26 dX9_takeDraft_33 ?_
      refine lv_iconst (v := 0) hx hb dX9_takeDraft_36 (by decide) ?_
      refine lv_iconst (v := 0) hx hb dX9_takeDraft_37 (by decide) ?_
      refine r_zast C hw 21 2 (hF 21 (by decide)) (fun _ => rfl) (vp_lit (by decide)) dX9_takeDraft_38 (fun H locs hw => ?_)
      refine lv_aload_n hx hb dX9_takeDraft_39 rfl (lv_at hl 0 rfl) ?_
      refine g9_17 C hw (hF 15 (by decide)) K_f_X9_26 dX9_takeDraft_40 ?_
      refine lv_iconst (v := 1) hx hb dX9_takeDraft_43 (by decide) ?_
      refine lv_iconst (v := 0) hx hb dX9_takeDraft_44 (by decide) ?_
      refine r_zast C hw 21 2 (hF 21 (by decide)) (fun _ => rfl) (vp_lit (by decide)) dX9_takeDraft_45 (fun H locs hw => ?_)
      rw [hQ]
      exact ret_v C hr hlk hw h dX9_takeDraft_46
    · have h := h.2 c1
      refine lv_aload_n hx hb dX9_takeDraft_9 rfl (lv_at hl 0 rfl) ?_
      refine g9_13 C hw (hF 15 (by decide)) K_f_X9_17 dX9_takeDraft_10 ?_
      refine lv_iload_n hx hb dX9_takeDraft_13 rfl (lv_at hl 1 rfl) ?_
      refine lv_aload_n hx hb dX9_takeDraft_14 rfl (lv_at hl 0 rfl) ?_
      refine g9_10 C hw (hF 15 (by decide)) K_f_X9_13 dX9_takeDraft_15 ?_
      refine lv_iload_n hx hb dX9_takeDraft_18 rfl (lv_at hl 1 rfl) ?_
      obtain ⟨hi3, h⟩ := h
      refine r_iald C hw 17 140 (hF 17 (by decide)) rfl hi3 dX9_takeDraft_19 ?_
      refine lv_topi (fun y1 ey1 => ?_)
      have h := h y1 ey1
      obtain ⟨hi4, h⟩ := h
      refine r_iast C hw 18 140 (hF 18 (by decide)) (fun _ => rfl) hi4 dX9_takeDraft_20 (fun H locs hw => ?_)
      obtain ⟨y2, ey2⟩ : ∃ y : Int32, y = x1 + 1 := ⟨_, rfl⟩
      have h := h y2 ey2
      refine lv_iinc (v := y2) (lv' := [(1, .int y2), (0, .ref (eA E 15))]) hx hb dX9_takeDraft_21 hl (k := 1) rfl (by rw [ey2]; first | rfl | decide) (by decide) rfl (fun ls hl => ?_)
      refine lv_goto (tgt := 2) hx hb dX9_takeDraft_24 (by decide) ?_
      exact h _ _ hw _ (lv_sub hl [1, 0] rfl)
  refine lv_iconst (v := 0) hx hb dX9_takeDraft_0 (by decide) ?_
  refine lv_istore_n (lv' := [(1, .int 0), (0, .ref (eA E 15))]) hx hb dX9_takeDraft_1 rfl hl (by decide) rfl (fun ls hl => ?_)
  exact h _ _ hw _ (lv_sub hl [1, 0] rfl)
theorem hy_X9_readSet : yX9_readSet.cls ≠ "java/lang/invoke/MethodHandle" ∧ yX9_readSet.cls ≠ "java/lang/invoke/VarHandle" ∧ (parseMethodDescriptor yX9_readSet.desc).map (fun d => d.parameters.length) = some 2 := by decide +kernel
def wp_X9_readSet (w : Wd) (p1 : Int32) (p2 : Int32) (Post : Int32 → Wd → Prop) : Prop :=
  ∀ J8 : Int32 → Int32 → Int32 → Wd → Prop, (∀ (x3 : Int32) (x4 : Int32) (x5 : Int32) (w : Wd), ((x5 = 0 → (Post x3 w)) ∧ (¬ x5 = 0 → (wp_X9_look w 1 p1 (fun r1 w1 => wp_X9_has w1 x3 r1 (fun r2 w2 => (r2 = 0 → (wp_X9_must w2 1 3 (fun r6 w8 => (r6 = 0 → (Post x3 w8)) ∧ (¬ r6 = 0 → ((p2 ≤ x4 → (wp_X9_must w8 0 4 (fun r7 w9 => (r7 = 0 → (Post x3 w9)) ∧ (¬ r7 = 0 → (∀ y5 : Int32, y5 = x3 ||| ((1 : Int32) <<< (r1 &&& 31)) → (∀ y6 : Int32, y6 = x4 + 1 → (wp_X9_goOn w9 (fun w10 => ((gI w10 15 8) = 0 → (((gI w10 15 6) = 2 → (J8 y5 y6 1 w10)) ∧ (¬ (gI w10 15 6) = 2 → (J8 y5 y6 0 w10)))) ∧ (¬ (gI w10 15 8) = 0 → (J8 y5 y6 0 w10)))))))))) ∧ (¬ p2 ≤ x4 → (wp_X9_must w8 1 4 (fun r8 w11 => (r8 = 0 → (Post x3 w11)) ∧ (¬ r8 = 0 → (∀ y7 : Int32, y7 = x3 ||| ((1 : Int32) <<< (r1 &&& 31)) → (∀ y8 : Int32, y8 = x4 + 1 → (wp_X9_goOn w11 (fun w12 => ((gI w12 15 8) = 0 → (((gI w12 15 6) = 2 → (J8 y7 y8 1 w12)) ∧ (¬ (gI w12 15 6) = 2 → (J8 y7 y8 0 w12)))) ∧ (¬ (gI w12 15 8) = 0 → (J8 y7 y8 0 w12))))))))))))))) ∧ (¬ r2 = 0 → (wp_X9_must w2 0 3 (fun r3 w3 => (r3 = 0 → (Post x3 w3)) ∧ (¬ r3 = 0 → ((p2 ≤ x4 → (wp_X9_must w3 0 4 (fun r4 w4 => (r4 = 0 → (Post x3 w4)) ∧ (¬ r4 = 0 → (∀ y1 : Int32, y1 = x3 ||| ((1 : Int32) <<< (r1 &&& 31)) → (∀ y2 : Int32, y2 = x4 + 1 → (wp_X9_goOn w4 (fun w5 => ((gI w5 15 8) = 0 → (((gI w5 15 6) = 2 → (J8 y1 y2 1 w5)) ∧ (¬ (gI w5 15 6) = 2 → (J8 y1 y2 0 w5)))) ∧ (¬ (gI w5 15 8) = 0 → (J8 y1 y2 0 w5)))))))))) ∧ (¬ p2 ≤ x4 → (wp_X9_must w3 1 4 (fun r5 w6 => (r5 = 0 → (Post x3 w6)) ∧ (¬ r5 = 0 → (∀ y3 : Int32, y3 = x3 ||| ((1 : Int32) <<< (r1 &&& 31)) → (∀ y4 : Int32, y4 = x4 + 1 → (wp_X9_goOn w6 (fun w7 => ((gI w7 15 8) = 0 → (((gI w7 15 6) = 2 → (J8 y3 y4 1 w7)) ∧ (¬ (gI w7 15 6) = 2 → (J8 y3 y4 0 w7)))) ∧ (¬ (gI w7 15 8) = 0 → (J8 y3 y4 0 w7)))))))))))))))))))) → J8 x3 x4 x5 w) →
  J8 0 0 1 w
set_option maxHeartbeats 4000000 in
set_option maxRecDepth 100000 in
theorem mt_X9_readSet (l : Launch) {E : En} (hI : Inj E) (hF : ∀ o, (15 ≤ o ∧ o < 25) → o ∈ eL E) (w : Wd) (p1 : Int32) (p2 : Int32) {Post : Int32 → Wd → Prop} (h : wp_X9_readSet w p1 p2 Post) : MI l E yX9_readSet cX9_readSet 7 (some .int) 3 63 [.ref (eA E 15), .int p1, .int p2] w Post := by
  refine MG.intro hI (by decide +kernel) (Nat.le_of_ble_eq_true rfl) ?_
  intro p e s m args below meth c Q C hr hlk hQ hw ls hl
  have hx := C.1
  have hb := C.2.1
  have hl : lv_has ls 7 [(0, .ref (eA E 15)), (1, .int p1), (2, .int p2)] := hl
  unfold wp_X9_readSet at h
  have h := h (fun x3 x4 x5 w => Jp E p l e (Rm 3 63) s m args below meth c Q 7 8 [(0, .ref (eA E 15)), (1, .int p1), (2, .int p2), (3, .int x3), (4, .int x4), (5, .int x5)] w)
  have h := h ?_
  rotate_left
  · intro x3 x4 x5 w h H locs hw ls hl
    refine lv_iload hx hb dX9_readSet_8 (lv_at hl 5 rfl) ?_
    refine lv_if_eq (tgt := 103) hx hb dX9_readSet_10 (by decide) (fun c1 => ?_) (fun c1 => ?_)
    · have h := h.1 c1
      refine lv_iload_n hx hb dX9_readSet_103 rfl (lv_at hl 3 rfl) ?_
      rw [hQ]
      exact ret_i C hr hlk hw h dX9_readSet_104
    · have h := h.2 c1
      refine lv_aload_n hx hb dX9_readSet_13 rfl (lv_at hl 0 rfl) ?_
      refine lv_iconst (v := 1) hx hb dX9_readSet_14 (by decide) ?_
      refine lv_iload_n hx hb dX9_readSet_15 rfl (lv_at hl 1 rfl) ?_
      refine done_i hw (my_runV (As := [.int 1, .int p1]) (rest := []) C hw 15 9 (hF 15 (by decide)) rfl rfl (mt_X9_look l C.2.2.2.2.2.2.2 hF _ _ _ h) K_m_X9_101 K_i_X9_look K_v_X9_look K_n_X9 K_c_X9_look hy_X9_look ⟨Nat.le_of_ble_eq_true rfl, Nat.le_of_ble_eq_true rfl⟩ hl.1 rfl (Nat.le_of_ble_eq_true rfl) dX9_readSet_16 ⟨Nat.zero_le _, Nat.zero_le _⟩) (fun r1 w1 H locs h hw => ?_)
      refine lv_istore (lv' := [(6, .int r1), (0, .ref (eA E 15)), (1, .int p1), (2, .int p2), (3, .int x3), (4, .int x4), (5, .int x5)]) hx hb dX9_readSet_19 hl (by decide) rfl (fun ls hl => ?_)
      refine lv_aload_n hx hb dX9_readSet_21 rfl (lv_at hl 1 rfl) ?_
      refine lv_iload_n hx hb dX9_readSet_22 rfl (lv_at hl 4 rfl) ?_
      refine lv_iload hx hb dX9_readSet_23 (lv_at hl 0 rfl) ?_
      refine done_i hw (my_runS (As := [.int x3, .int r1]) (rest := [.ref (eA E 15)]) C hw (mt_X9_has l C.2.2.2.2.2.2.2 hF _ _ _ h) K_m_X9_118 K_s_X9_has K_n_X9 K_c_X9_has hy_X9_has ⟨Nat.le_of_ble_eq_true rfl, Nat.le_of_ble_eq_true rfl⟩ hl.1 rfl (Nat.le_of_ble_eq_true rfl) dX9_readSet_25 ⟨Nat.zero_le _, Nat.zero_le _⟩) (fun r2 w2 H locs h hw => ?_)
      refine lv_if_ne (tgt := 35) hx hb dX9_readSet_28 (by decide) (fun c2 => ?_) (fun c2 => ?_)
      · have h := h.2 c2
        refine lv_iconst (v := 0) hx hb dX9_readSet_35 (by decide) ?_
        refine lv_iconst (v := 3) hx hb dX9_readSet_36 (by decide) ?_
        refine done_i hw (my_runV (As := [.int 0, .int 3]) (rest := []) C hw 15 9 (hF 15 (by decide)) rfl rfl (mt_X9_must l C.2.2.2.2.2.2.2 hF _ _ _ h) K_m_X9_94 K_i_X9_must K_v_X9_must K_n_X9 K_c_X9_must hy_X9_must ⟨Nat.le_of_ble_eq_true rfl, Nat.le_of_ble_eq_true rfl⟩ hl.1 rfl (Nat.le_of_ble_eq_true rfl) dX9_readSet_37 ⟨Nat.zero_le _, Nat.zero_le _⟩) (fun r3 w3 H locs h hw => ?_)
        refine lv_if_eq (tgt := 62) hx hb dX9_readSet_40 (by decide) (fun c3 => ?_) (fun c3 => ?_)
        · have h := h.1 c3
          refine lv_iload_n hx hb dX9_readSet_62 rfl (lv_at hl 4 rfl) ?_
          rw [hQ]
          exact ret_i C hr hlk hw h dX9_readSet_63
        · have h := h.2 c3
          refine lv_aload_n hx hb dX9_readSet_43 rfl (lv_at hl 1 rfl) ?_
          refine lv_iload hx hb dX9_readSet_44 (lv_at hl 5 rfl) ?_
          refine lv_iload_n hx hb dX9_readSet_46 rfl (lv_at hl 3 rfl) ?_
          refine lv_icmp_ge (tgt := 54) hx hb dX9_readSet_47 (by decide) (fun c4 => ?_) (fun c4 => ?_)
          · have h := h.1 c4
            refine lv_iconst (v := 0) hx hb dX9_readSet_54 (by decide) ?_
            refine lv_iconst (v := 4) hx hb dX9_readSet_55 (by decide) ?_
            refine done_i hw (my_runV (As := [.int 0, .int 4]) (rest := []) C hw 15 9 (hF 15 (by decide)) rfl rfl (mt_X9_must l C.2.2.2.2.2.2.2 hF _ _ _ h) K_m_X9_94 K_i_X9_must K_v_X9_must K_n_X9 K_c_X9_must hy_X9_must ⟨Nat.le_of_ble_eq_true rfl, Nat.le_of_ble_eq_true rfl⟩ hl.1 rfl (Nat.le_of_ble_eq_true rfl) dX9_readSet_56 ⟨Nat.zero_le _, Nat.zero_le _⟩) (fun r4 w4 H locs h hw => ?_)
            refine lv_if_ne (tgt := 64) hx hb dX9_readSet_59 (by decide) (fun c5 => ?_) (fun c5 => ?_)
            · have h := h.2 c5
              refine lv_iload_n hx hb dX9_readSet_64 rfl (lv_at hl 4 rfl) ?_
              refine lv_iconst (v := 1) hx hb dX9_readSet_65 (by decide) ?_
              refine lv_iload hx hb dX9_readSet_66 (lv_at hl 0 rfl) ?_
              refine lv_ishl hx hb dX9_readSet_68 ?_
              refine lv_ior hx hb dX9_readSet_69 ?_
              refine lv_topi (fun y1 ey1 => ?_)
              have h := h y1 ey1
              refine lv_istore_n (lv' := [(3, .int y1), (6, .int r1), (0, .ref (eA E 15)), (1, .int p1), (2, .int p2), (4, .int x4), (5, .int x5)]) hx hb dX9_readSet_70 rfl hl (by decide) rfl (fun ls hl => ?_)
              obtain ⟨y2, ey2⟩ : ∃ y : Int32, y = x4 + 1 := ⟨_, rfl⟩
              have h := h y2 ey2
              refine lv_iinc (v := y2) (lv' := [(4, .int y2), (3, .int y1), (6, .int r1), (0, .ref (eA E 15)), (1, .int p1), (2, .int p2), (5, .int x5)]) hx hb dX9_readSet_71 hl (k := 5) rfl (by rw [ey2]; first | rfl | decide) (by decide) rfl (fun ls hl => ?_)
              refine lv_aload_n hx hb dX9_readSet_74 rfl (lv_at hl 3 rfl) ?_
              refine done_v hw (my_runV (As := []) (rest := []) C hw 15 9 (hF 15 (by decide)) rfl rfl (mt_X9_goOn l C.2.2.2.2.2.2.2 hF _ h) K_m_X9_105 K_i_X9_goOn K_v_X9_goOn K_n_X9 K_c_X9_goOn hy_X9_goOn ⟨Nat.le_of_ble_eq_true rfl, Nat.le_of_ble_eq_true rfl⟩ hl.1 rfl (Nat.le_of_ble_eq_true rfl) dX9_readSet_75 ⟨Nat.zero_le _, Nat.zero_le _⟩) (fun w5 H locs h hw => ?_)
              refine lv_aload_n hx hb dX9_readSet_78 rfl (lv_at hl 3 rfl) ?_
              refine g9_8 C hw (hF 15 (by decide)) K_f_X9_79 dX9_readSet_79 ?_
              refine lv_if_ne (tgt := 97) hx hb dX9_readSet_82 (by decide) (fun c6 => ?_) (fun c6 => ?_)
              · have h := h.2 c6
                refine lv_iconst (v := 0) hx hb dX9_readSet_97 (by decide) ?_
                refine lv_istore (lv' := [(5, .int 0), (4, .int y2), (3, .int y1), (6, .int r1), (0, .ref (eA E 15)), (1, .int p1), (2, .int p2)]) hx hb dX9_readSet_98 hl (by decide) rfl (fun ls hl => ?_)
                refine lv_goto (tgt := 8) hx hb dX9_readSet_100 (by decide) ?_
                exact h _ _ hw _ (lv_sub hl [4, 5, 6, 2, 1, 0] rfl)
              · have h := h.1 c6
                refine lv_aload_n hx hb dX9_readSet_85 rfl (lv_at hl 3 rfl) ?_
                refine g9_6 C hw (hF 15 (by decide)) K_f_X9_69 dX9_readSet_86 ?_
                refine lv_iconst (v := 2) hx hb dX9_readSet_89 (by decide) ?_
                refine lv_icmp_ne (tgt := 97) hx hb dX9_readSet_90 (by decide) (fun c7 => ?_) (fun c7 => ?_)
                · have h := h.2 c7
                  refine lv_iconst (v := 0) hx hb dX9_readSet_97 (by decide) ?_
                  refine lv_istore (lv' := [(5, .int 0), (4, .int y2), (3, .int y1), (6, .int r1), (0, .ref (eA E 15)), (1, .int p1), (2, .int p2)]) hx hb dX9_readSet_98 hl (by decide) rfl (fun ls hl => ?_)
                  refine lv_goto (tgt := 8) hx hb dX9_readSet_100 (by decide) ?_
                  exact h _ _ hw _ (lv_sub hl [4, 5, 6, 2, 1, 0] rfl)
                · have h := h.1 c7
                  refine lv_iconst (v := 1) hx hb dX9_readSet_93 (by decide) ?_
                  refine lv_goto (tgt := 98) hx hb dX9_readSet_94 (by decide) ?_
                  refine lv_istore (lv' := [(5, .int 1), (4, .int y2), (3, .int y1), (6, .int r1), (0, .ref (eA E 15)), (1, .int p1), (2, .int p2)]) hx hb dX9_readSet_98 hl (by decide) rfl (fun ls hl => ?_)
                  refine lv_goto (tgt := 8) hx hb dX9_readSet_100 (by decide) ?_
                  exact h _ _ hw _ (lv_sub hl [4, 5, 6, 2, 1, 0] rfl)
            · have h := h.1 c5
              refine lv_iload_n hx hb dX9_readSet_62 rfl (lv_at hl 4 rfl) ?_
              rw [hQ]
              exact ret_i C hr hlk hw h dX9_readSet_63
          · have h := h.2 c4
            refine lv_iconst (v := 1) hx hb dX9_readSet_50 (by decide) ?_
            refine lv_goto (tgt := 55) hx hb dX9_readSet_51 (by decide) ?_
            refine lv_iconst (v := 4) hx hb dX9_readSet_55 (by decide) ?_
            refine done_i hw (my_runV (As := [.int 1, .int 4]) (rest := []) C hw 15 9 (hF 15 (by decide)) rfl rfl (mt_X9_must l C.2.2.2.2.2.2.2 hF _ _ _ h) K_m_X9_94 K_i_X9_must K_v_X9_must K_n_X9 K_c_X9_must hy_X9_must ⟨Nat.le_of_ble_eq_true rfl, Nat.le_of_ble_eq_true rfl⟩ hl.1 rfl (Nat.le_of_ble_eq_true rfl) dX9_readSet_56 ⟨Nat.zero_le _, Nat.zero_le _⟩) (fun r5 w6 H locs h hw => ?_)
            refine lv_if_ne (tgt := 64) hx hb dX9_readSet_59 (by decide) (fun c8 => ?_) (fun c8 => ?_)
            · have h := h.2 c8
              refine lv_iload_n hx hb dX9_readSet_64 rfl (lv_at hl 4 rfl) ?_
              refine lv_iconst (v := 1) hx hb dX9_readSet_65 (by decide) ?_
              refine lv_iload hx hb dX9_readSet_66 (lv_at hl 0 rfl) ?_
              refine lv_ishl hx hb dX9_readSet_68 ?_
              refine lv_ior hx hb dX9_readSet_69 ?_
              refine lv_topi (fun y3 ey3 => ?_)
              have h := h y3 ey3
              refine lv_istore_n (lv' := [(3, .int y3), (6, .int r1), (0, .ref (eA E 15)), (1, .int p1), (2, .int p2), (4, .int x4), (5, .int x5)]) hx hb dX9_readSet_70 rfl hl (by decide) rfl (fun ls hl => ?_)
              obtain ⟨y4, ey4⟩ : ∃ y : Int32, y = x4 + 1 := ⟨_, rfl⟩
              have h := h y4 ey4
              refine lv_iinc (v := y4) (lv' := [(4, .int y4), (3, .int y3), (6, .int r1), (0, .ref (eA E 15)), (1, .int p1), (2, .int p2), (5, .int x5)]) hx hb dX9_readSet_71 hl (k := 5) rfl (by rw [ey4]; first | rfl | decide) (by decide) rfl (fun ls hl => ?_)
              refine lv_aload_n hx hb dX9_readSet_74 rfl (lv_at hl 3 rfl) ?_
              refine done_v hw (my_runV (As := []) (rest := []) C hw 15 9 (hF 15 (by decide)) rfl rfl (mt_X9_goOn l C.2.2.2.2.2.2.2 hF _ h) K_m_X9_105 K_i_X9_goOn K_v_X9_goOn K_n_X9 K_c_X9_goOn hy_X9_goOn ⟨Nat.le_of_ble_eq_true rfl, Nat.le_of_ble_eq_true rfl⟩ hl.1 rfl (Nat.le_of_ble_eq_true rfl) dX9_readSet_75 ⟨Nat.zero_le _, Nat.zero_le _⟩) (fun w7 H locs h hw => ?_)
              refine lv_aload_n hx hb dX9_readSet_78 rfl (lv_at hl 3 rfl) ?_
              refine g9_8 C hw (hF 15 (by decide)) K_f_X9_79 dX9_readSet_79 ?_
              refine lv_if_ne (tgt := 97) hx hb dX9_readSet_82 (by decide) (fun c9 => ?_) (fun c9 => ?_)
              · have h := h.2 c9
                refine lv_iconst (v := 0) hx hb dX9_readSet_97 (by decide) ?_
                refine lv_istore (lv' := [(5, .int 0), (4, .int y4), (3, .int y3), (6, .int r1), (0, .ref (eA E 15)), (1, .int p1), (2, .int p2)]) hx hb dX9_readSet_98 hl (by decide) rfl (fun ls hl => ?_)
                refine lv_goto (tgt := 8) hx hb dX9_readSet_100 (by decide) ?_
                exact h _ _ hw _ (lv_sub hl [4, 5, 6, 2, 1, 0] rfl)
              · have h := h.1 c9
                refine lv_aload_n hx hb dX9_readSet_85 rfl (lv_at hl 3 rfl) ?_
                refine g9_6 C hw (hF 15 (by decide)) K_f_X9_69 dX9_readSet_86 ?_
                refine lv_iconst (v := 2) hx hb dX9_readSet_89 (by decide) ?_
                refine lv_icmp_ne (tgt := 97) hx hb dX9_readSet_90 (by decide) (fun c10 => ?_) (fun c10 => ?_)
                · have h := h.2 c10
                  refine lv_iconst (v := 0) hx hb dX9_readSet_97 (by decide) ?_
                  refine lv_istore (lv' := [(5, .int 0), (4, .int y4), (3, .int y3), (6, .int r1), (0, .ref (eA E 15)), (1, .int p1), (2, .int p2)]) hx hb dX9_readSet_98 hl (by decide) rfl (fun ls hl => ?_)
                  refine lv_goto (tgt := 8) hx hb dX9_readSet_100 (by decide) ?_
                  exact h _ _ hw _ (lv_sub hl [4, 5, 6, 2, 1, 0] rfl)
                · have h := h.1 c10
                  refine lv_iconst (v := 1) hx hb dX9_readSet_93 (by decide) ?_
                  refine lv_goto (tgt := 98) hx hb dX9_readSet_94 (by decide) ?_
                  refine lv_istore (lv' := [(5, .int 1), (4, .int y4), (3, .int y3), (6, .int r1), (0, .ref (eA E 15)), (1, .int p1), (2, .int p2)]) hx hb dX9_readSet_98 hl (by decide) rfl (fun ls hl => ?_)
                  refine lv_goto (tgt := 8) hx hb dX9_readSet_100 (by decide) ?_
                  exact h _ _ hw _ (lv_sub hl [4, 5, 6, 2, 1, 0] rfl)
            · have h := h.1 c8
              refine lv_iload_n hx hb dX9_readSet_62 rfl (lv_at hl 4 rfl) ?_
              rw [hQ]
              exact ret_i C hr hlk hw h dX9_readSet_63
      · have h := h.1 c2
        refine lv_iconst (v := 1) hx hb dX9_readSet_31 (by decide) ?_
        refine lv_goto (tgt := 36) hx hb dX9_readSet_32 (by decide) ?_
        refine lv_iconst (v := 3) hx hb dX9_readSet_36 (by decide) ?_
        refine done_i hw (my_runV (As := [.int 1, .int 3]) (rest := []) C hw 15 9 (hF 15 (by decide)) rfl rfl (mt_X9_must l C.2.2.2.2.2.2.2 hF _ _ _ h) K_m_X9_94 K_i_X9_must K_v_X9_must K_n_X9 K_c_X9_must hy_X9_must ⟨Nat.le_of_ble_eq_true rfl, Nat.le_of_ble_eq_true rfl⟩ hl.1 rfl (Nat.le_of_ble_eq_true rfl) dX9_readSet_37 ⟨Nat.zero_le _, Nat.zero_le _⟩) (fun r6 w8 H locs h hw => ?_)
        refine lv_if_eq (tgt := 62) hx hb dX9_readSet_40 (by decide) (fun c11 => ?_) (fun c11 => ?_)
        · have h := h.1 c11
          refine lv_iload_n hx hb dX9_readSet_62 rfl (lv_at hl 4 rfl) ?_
          rw [hQ]
          exact ret_i C hr hlk hw h dX9_readSet_63
        · have h := h.2 c11
          refine lv_aload_n hx hb dX9_readSet_43 rfl (lv_at hl 1 rfl) ?_
          refine lv_iload hx hb dX9_readSet_44 (lv_at hl 5 rfl) ?_
          refine lv_iload_n hx hb dX9_readSet_46 rfl (lv_at hl 3 rfl) ?_
          refine lv_icmp_ge (tgt := 54) hx hb dX9_readSet_47 (by decide) (fun c12 => ?_) (fun c12 => ?_)
          · have h := h.1 c12
            refine lv_iconst (v := 0) hx hb dX9_readSet_54 (by decide) ?_
            refine lv_iconst (v := 4) hx hb dX9_readSet_55 (by decide) ?_
            refine done_i hw (my_runV (As := [.int 0, .int 4]) (rest := []) C hw 15 9 (hF 15 (by decide)) rfl rfl (mt_X9_must l C.2.2.2.2.2.2.2 hF _ _ _ h) K_m_X9_94 K_i_X9_must K_v_X9_must K_n_X9 K_c_X9_must hy_X9_must ⟨Nat.le_of_ble_eq_true rfl, Nat.le_of_ble_eq_true rfl⟩ hl.1 rfl (Nat.le_of_ble_eq_true rfl) dX9_readSet_56 ⟨Nat.zero_le _, Nat.zero_le _⟩) (fun r7 w9 H locs h hw => ?_)
            refine lv_if_ne (tgt := 64) hx hb dX9_readSet_59 (by decide) (fun c13 => ?_) (fun c13 => ?_)
            · have h := h.2 c13
              refine lv_iload_n hx hb dX9_readSet_64 rfl (lv_at hl 4 rfl) ?_
              refine lv_iconst (v := 1) hx hb dX9_readSet_65 (by decide) ?_
              refine lv_iload hx hb dX9_readSet_66 (lv_at hl 0 rfl) ?_
              refine lv_ishl hx hb dX9_readSet_68 ?_
              refine lv_ior hx hb dX9_readSet_69 ?_
              refine lv_topi (fun y5 ey5 => ?_)
              have h := h y5 ey5
              refine lv_istore_n (lv' := [(3, .int y5), (6, .int r1), (0, .ref (eA E 15)), (1, .int p1), (2, .int p2), (4, .int x4), (5, .int x5)]) hx hb dX9_readSet_70 rfl hl (by decide) rfl (fun ls hl => ?_)
              obtain ⟨y6, ey6⟩ : ∃ y : Int32, y = x4 + 1 := ⟨_, rfl⟩
              have h := h y6 ey6
              refine lv_iinc (v := y6) (lv' := [(4, .int y6), (3, .int y5), (6, .int r1), (0, .ref (eA E 15)), (1, .int p1), (2, .int p2), (5, .int x5)]) hx hb dX9_readSet_71 hl (k := 5) rfl (by rw [ey6]; first | rfl | decide) (by decide) rfl (fun ls hl => ?_)
              refine lv_aload_n hx hb dX9_readSet_74 rfl (lv_at hl 3 rfl) ?_
              refine done_v hw (my_runV (As := []) (rest := []) C hw 15 9 (hF 15 (by decide)) rfl rfl (mt_X9_goOn l C.2.2.2.2.2.2.2 hF _ h) K_m_X9_105 K_i_X9_goOn K_v_X9_goOn K_n_X9 K_c_X9_goOn hy_X9_goOn ⟨Nat.le_of_ble_eq_true rfl, Nat.le_of_ble_eq_true rfl⟩ hl.1 rfl (Nat.le_of_ble_eq_true rfl) dX9_readSet_75 ⟨Nat.zero_le _, Nat.zero_le _⟩) (fun w10 H locs h hw => ?_)
              refine lv_aload_n hx hb dX9_readSet_78 rfl (lv_at hl 3 rfl) ?_
              refine g9_8 C hw (hF 15 (by decide)) K_f_X9_79 dX9_readSet_79 ?_
              refine lv_if_ne (tgt := 97) hx hb dX9_readSet_82 (by decide) (fun c14 => ?_) (fun c14 => ?_)
              · have h := h.2 c14
                refine lv_iconst (v := 0) hx hb dX9_readSet_97 (by decide) ?_
                refine lv_istore (lv' := [(5, .int 0), (4, .int y6), (3, .int y5), (6, .int r1), (0, .ref (eA E 15)), (1, .int p1), (2, .int p2)]) hx hb dX9_readSet_98 hl (by decide) rfl (fun ls hl => ?_)
                refine lv_goto (tgt := 8) hx hb dX9_readSet_100 (by decide) ?_
                exact h _ _ hw _ (lv_sub hl [4, 5, 6, 2, 1, 0] rfl)
              · have h := h.1 c14
                refine lv_aload_n hx hb dX9_readSet_85 rfl (lv_at hl 3 rfl) ?_
                refine g9_6 C hw (hF 15 (by decide)) K_f_X9_69 dX9_readSet_86 ?_
                refine lv_iconst (v := 2) hx hb dX9_readSet_89 (by decide) ?_
                refine lv_icmp_ne (tgt := 97) hx hb dX9_readSet_90 (by decide) (fun c15 => ?_) (fun c15 => ?_)
                · have h := h.2 c15
                  refine lv_iconst (v := 0) hx hb dX9_readSet_97 (by decide) ?_
                  refine lv_istore (lv' := [(5, .int 0), (4, .int y6), (3, .int y5), (6, .int r1), (0, .ref (eA E 15)), (1, .int p1), (2, .int p2)]) hx hb dX9_readSet_98 hl (by decide) rfl (fun ls hl => ?_)
                  refine lv_goto (tgt := 8) hx hb dX9_readSet_100 (by decide) ?_
                  exact h _ _ hw _ (lv_sub hl [4, 5, 6, 2, 1, 0] rfl)
                · have h := h.1 c15
                  refine lv_iconst (v := 1) hx hb dX9_readSet_93 (by decide) ?_
                  refine lv_goto (tgt := 98) hx hb dX9_readSet_94 (by decide) ?_
                  refine lv_istore (lv' := [(5, .int 1), (4, .int y6), (3, .int y5), (6, .int r1), (0, .ref (eA E 15)), (1, .int p1), (2, .int p2)]) hx hb dX9_readSet_98 hl (by decide) rfl (fun ls hl => ?_)
                  refine lv_goto (tgt := 8) hx hb dX9_readSet_100 (by decide) ?_
                  exact h _ _ hw _ (lv_sub hl [4, 5, 6, 2, 1, 0] rfl)
            · have h := h.1 c13
              refine lv_iload_n hx hb dX9_readSet_62 rfl (lv_at hl 4 rfl) ?_
              rw [hQ]
              exact ret_i C hr hlk hw h dX9_readSet_63
          · have h := h.2 c12
            refine lv_iconst (v := 1) hx hb dX9_readSet_50 (by decide) ?_
            refine lv_goto (tgt := 55) hx hb dX9_readSet_51 (by decide) ?_
            refine lv_iconst (v := 4) hx hb dX9_readSet_55 (by decide) ?_
            refine done_i hw (my_runV (As := [.int 1, .int 4]) (rest := []) C hw 15 9 (hF 15 (by decide)) rfl rfl (mt_X9_must l C.2.2.2.2.2.2.2 hF _ _ _ h) K_m_X9_94 K_i_X9_must K_v_X9_must K_n_X9 K_c_X9_must hy_X9_must ⟨Nat.le_of_ble_eq_true rfl, Nat.le_of_ble_eq_true rfl⟩ hl.1 rfl (Nat.le_of_ble_eq_true rfl) dX9_readSet_56 ⟨Nat.zero_le _, Nat.zero_le _⟩) (fun r8 w11 H locs h hw => ?_)
            refine lv_if_ne (tgt := 64) hx hb dX9_readSet_59 (by decide) (fun c16 => ?_) (fun c16 => ?_)
            · have h := h.2 c16
              refine lv_iload_n hx hb dX9_readSet_64 rfl (lv_at hl 4 rfl) ?_
              refine lv_iconst (v := 1) hx hb dX9_readSet_65 (by decide) ?_
              refine lv_iload hx hb dX9_readSet_66 (lv_at hl 0 rfl) ?_
              refine lv_ishl hx hb dX9_readSet_68 ?_
              refine lv_ior hx hb dX9_readSet_69 ?_
              refine lv_topi (fun y7 ey7 => ?_)
              have h := h y7 ey7
              refine lv_istore_n (lv' := [(3, .int y7), (6, .int r1), (0, .ref (eA E 15)), (1, .int p1), (2, .int p2), (4, .int x4), (5, .int x5)]) hx hb dX9_readSet_70 rfl hl (by decide) rfl (fun ls hl => ?_)
              obtain ⟨y8, ey8⟩ : ∃ y : Int32, y = x4 + 1 := ⟨_, rfl⟩
              have h := h y8 ey8
              refine lv_iinc (v := y8) (lv' := [(4, .int y8), (3, .int y7), (6, .int r1), (0, .ref (eA E 15)), (1, .int p1), (2, .int p2), (5, .int x5)]) hx hb dX9_readSet_71 hl (k := 5) rfl (by rw [ey8]; first | rfl | decide) (by decide) rfl (fun ls hl => ?_)
              refine lv_aload_n hx hb dX9_readSet_74 rfl (lv_at hl 3 rfl) ?_
              refine done_v hw (my_runV (As := []) (rest := []) C hw 15 9 (hF 15 (by decide)) rfl rfl (mt_X9_goOn l C.2.2.2.2.2.2.2 hF _ h) K_m_X9_105 K_i_X9_goOn K_v_X9_goOn K_n_X9 K_c_X9_goOn hy_X9_goOn ⟨Nat.le_of_ble_eq_true rfl, Nat.le_of_ble_eq_true rfl⟩ hl.1 rfl (Nat.le_of_ble_eq_true rfl) dX9_readSet_75 ⟨Nat.zero_le _, Nat.zero_le _⟩) (fun w12 H locs h hw => ?_)
              refine lv_aload_n hx hb dX9_readSet_78 rfl (lv_at hl 3 rfl) ?_
              refine g9_8 C hw (hF 15 (by decide)) K_f_X9_79 dX9_readSet_79 ?_
              refine lv_if_ne (tgt := 97) hx hb dX9_readSet_82 (by decide) (fun c17 => ?_) (fun c17 => ?_)
              · have h := h.2 c17
                refine lv_iconst (v := 0) hx hb dX9_readSet_97 (by decide) ?_
                refine lv_istore (lv' := [(5, .int 0), (4, .int y8), (3, .int y7), (6, .int r1), (0, .ref (eA E 15)), (1, .int p1), (2, .int p2)]) hx hb dX9_readSet_98 hl (by decide) rfl (fun ls hl => ?_)
                refine lv_goto (tgt := 8) hx hb dX9_readSet_100 (by decide) ?_
                exact h _ _ hw _ (lv_sub hl [4, 5, 6, 2, 1, 0] rfl)
              · have h := h.1 c17
                refine lv_aload_n hx hb dX9_readSet_85 rfl (lv_at hl 3 rfl) ?_
                refine g9_6 C hw (hF 15 (by decide)) K_f_X9_69 dX9_readSet_86 ?_
                refine lv_iconst (v := 2) hx hb dX9_readSet_89 (by decide) ?_
                refine lv_icmp_ne (tgt := 97) hx hb dX9_readSet_90 (by decide) (fun c18 => ?_) (fun c18 => ?_)
                · have h := h.2 c18
                  refine lv_iconst (v := 0) hx hb dX9_readSet_97 (by decide) ?_
                  refine lv_istore (lv' := [(5, .int 0), (4, .int y8), (3, .int y7), (6, .int r1), (0, .ref (eA E 15)), (1, .int p1), (2, .int p2)]) hx hb dX9_readSet_98 hl (by decide) rfl (fun ls hl => ?_)
                  refine lv_goto (tgt := 8) hx hb dX9_readSet_100 (by decide) ?_
                  exact h _ _ hw _ (lv_sub hl [4, 5, 6, 2, 1, 0] rfl)
                · have h := h.1 c18
                  refine lv_iconst (v := 1) hx hb dX9_readSet_93 (by decide) ?_
                  refine lv_goto (tgt := 98) hx hb dX9_readSet_94 (by decide) ?_
                  refine lv_istore (lv' := [(5, .int 1), (4, .int y8), (3, .int y7), (6, .int r1), (0, .ref (eA E 15)), (1, .int p1), (2, .int p2)]) hx hb dX9_readSet_98 hl (by decide) rfl (fun ls hl => ?_)
                  refine lv_goto (tgt := 8) hx hb dX9_readSet_100 (by decide) ?_
                  exact h _ _ hw _ (lv_sub hl [4, 5, 6, 2, 1, 0] rfl)
            · have h := h.1 c16
              refine lv_iload_n hx hb dX9_readSet_62 rfl (lv_at hl 4 rfl) ?_
              rw [hQ]
              exact ret_i C hr hlk hw h dX9_readSet_63
  refine lv_iconst (v := 0) hx hb dX9_readSet_0 (by decide) ?_
  refine lv_istore_n (lv' := [(3, .int 0), (0, .ref (eA E 15)), (1, .int p1), (2, .int p2)]) hx hb dX9_readSet_1 rfl hl (by decide) rfl (fun ls hl => ?_)
  refine lv_iconst (v := 0) hx hb dX9_readSet_2 (by decide) ?_
  refine lv_istore (lv' := [(4, .int 0), (3, .int 0), (0, .ref (eA E 15)), (1, .int p1), (2, .int p2)]) hx hb dX9_readSet_3 hl (by decide) rfl (fun ls hl => ?_)
  refine lv_iconst (v := 1) hx hb dX9_readSet_5 (by decide) ?_
  refine lv_istore (lv' := [(5, .int 1), (4, .int 0), (3, .int 0), (0, .ref (eA E 15)), (1, .int p1), (2, .int p2)]) hx hb dX9_readSet_6 hl (by decide) rfl (fun ls hl => ?_)
  exact h _ _ hw _ (lv_sub hl [3, 4, 5, 2, 1, 0] rfl)
theorem hy_X9_lockLine : yX9_lockLine.cls ≠ "java/lang/invoke/MethodHandle" ∧ yX9_lockLine.cls ≠ "java/lang/invoke/VarHandle" ∧ (parseMethodDescriptor yX9_lockLine.desc).map (fun d => d.parameters.length) = some 0 := by decide +kernel
def wp_X9_lockLine (w : Wd) (Post : Wd → Prop) : Prop :=
  wp_X9_goOn w (fun w1 => wp_X9_read w1 0 ((gA w1 17 0) - 1) (fun r1 w2 => ∀ y1 : Int32, y1 = 1 + (7 * r1) → (((gI w2 15 8) = 0 → (vp_in (y1 + 0) 140 ∧ (wp_X9_look w2 1 (gA w2 17 ((y1 + 0).toNatClampNeg)) (fun r6 w10 => ((gI w10 15 8) = 0 → (vp_in (y1 + 3) 140 ∧ (wp_X9_has w10 (gA w10 17 ((y1 + 3).toNatClampNeg)) r6 (fun r7 w12 => (r7 = 0 → (wp_X9_must w12 1 3 (fun r9 w15 => wp_X9_goOn w15 (fun w16 => ((gI w16 15 8) = 0 → (∀ y12 : Int32, y12 = y1 + 3 → (vp_in y12 140 ∧ (∀ y13 : Int32, y13 = (gA w16 17 y12.toNatClampNeg) ||| ((1 : Int32) <<< (r6 &&& 31)) → (vp_in y12 140 ∧ (Post (sA w16 17 y12.toNatClampNeg y13))))))) ∧ (¬ (gI w16 15 8) = 0 → (Post w16)))))) ∧ (¬ r7 = 0 → (wp_X9_must w12 0 3 (fun r8 w13 => wp_X9_goOn w13 (fun w14 => ((gI w14 15 8) = 0 → (∀ y10 : Int32, y10 = y1 + 3 → (vp_in y10 140 ∧ (∀ y11 : Int32, y11 = (gA w14 17 y10.toNatClampNeg) ||| ((1 : Int32) <<< (r6 &&& 31)) → (vp_in y10 140 ∧ (Post (sA w14 17 y10.toNatClampNeg y11))))))) ∧ (¬ (gI w14 15 8) = 0 → (Post w14)))))))))) ∧ (¬ (gI w10 15 8) = 0 → (wp_X9_goOn w10 (fun w11 => ((gI w11 15 8) = 0 → (∀ y8 : Int32, y8 = y1 + 3 → (vp_in y8 140 ∧ (∀ y9 : Int32, y9 = (gA w11 17 y8.toNatClampNeg) ||| ((1 : Int32) <<< (r6 &&& 31)) → (vp_in y8 140 ∧ (Post (sA w11 17 y8.toNatClampNeg y9))))))) ∧ (¬ (gI w11 15 8) = 0 → (Post w11))))))))) ∧ (¬ (gI w2 15 8) = 0 → (wp_X9_look w2 1 1 (fun r2 w3 => ((gI w3 15 8) = 0 → (vp_in (y1 + 3) 140 ∧ (wp_X9_has w3 (gA w3 17 ((y1 + 3).toNatClampNeg)) r2 (fun r3 w5 => (r3 = 0 → (wp_X9_must w5 1 3 (fun r5 w8 => wp_X9_goOn w8 (fun w9 => ((gI w9 15 8) = 0 → (∀ y6 : Int32, y6 = y1 + 3 → (vp_in y6 140 ∧ (∀ y7 : Int32, y7 = (gA w9 17 y6.toNatClampNeg) ||| ((1 : Int32) <<< (r2 &&& 31)) → (vp_in y6 140 ∧ (Post (sA w9 17 y6.toNatClampNeg y7))))))) ∧ (¬ (gI w9 15 8) = 0 → (Post w9)))))) ∧ (¬ r3 = 0 → (wp_X9_must w5 0 3 (fun r4 w6 => wp_X9_goOn w6 (fun w7 => ((gI w7 15 8) = 0 → (∀ y4 : Int32, y4 = y1 + 3 → (vp_in y4 140 ∧ (∀ y5 : Int32, y5 = (gA w7 17 y4.toNatClampNeg) ||| ((1 : Int32) <<< (r2 &&& 31)) → (vp_in y4 140 ∧ (Post (sA w7 17 y4.toNatClampNeg y5))))))) ∧ (¬ (gI w7 15 8) = 0 → (Post w7)))))))))) ∧ (¬ (gI w3 15 8) = 0 → (wp_X9_goOn w3 (fun w4 => ((gI w4 15 8) = 0 → (∀ y2 : Int32, y2 = y1 + 3 → (vp_in y2 140 ∧ (∀ y3 : Int32, y3 = (gA w4 17 y2.toNatClampNeg) ||| ((1 : Int32) <<< (r2 &&& 31)) → (vp_in y2 140 ∧ (Post (sA w4 17 y2.toNatClampNeg y3))))))) ∧ (¬ (gI w4 15 8) = 0 → (Post w4)))))))))))
set_option maxHeartbeats 4000000 in
set_option maxRecDepth 100000 in
theorem mt_X9_lockLine (l : Launch) {E : En} (hI : Inj E) (hF : ∀ o, (15 ≤ o ∧ o < 25) → o ∈ eL E) (w : Wd) {Post : Wd → Prop} (h : wp_X9_lockLine w Post) : MV l E yX9_lockLine cX9_lockLine 3 none 4 86 [.ref (eA E 15)] w Post := by
  refine MG.intro hI (by decide +kernel) (Nat.le_of_ble_eq_true rfl) ?_
  intro p e s m args below meth c Q C hr hlk hQ hw ls hl
  have hx := C.1
  have hb := C.2.1
  have hl : lv_has ls 3 [(0, .ref (eA E 15))] := hl
  unfold wp_X9_lockLine at h
  refine lv_aload_n hx hb dX9_lockLine_0 rfl (lv_at hl 0 rfl) ?_
  refine done_v hw (my_runV (As := []) (rest := []) C hw 15 9 (hF 15 (by decide)) rfl rfl (mt_X9_goOn l C.2.2.2.2.2.2.2 hF _ h) K_m_X9_105 K_i_X9_goOn K_v_X9_goOn K_n_X9 K_c_X9_goOn hy_X9_goOn ⟨Nat.le_of_ble_eq_true rfl, Nat.le_of_ble_eq_true rfl⟩ hl.1 rfl (Nat.le_of_ble_eq_true rfl) dX9_lockLine_1 ⟨Nat.zero_le _, Nat.zero_le _⟩) (fun w1 H locs h hw => ?_)
  refine lv_iconst (v := 1) hx hb dX9_lockLine_4 (by decide) ?_
  refine lv_bipush (v := 7) hx hb dX9_lockLine_5 (by decide) ?_
  refine lv_aload_n hx hb dX9_lockLine_7 rfl (lv_at hl 0 rfl) ?_
  refine lv_iconst (v := 0) hx hb dX9_lockLine_8 (by decide) ?_
  refine lv_aload_n hx hb dX9_lockLine_9 rfl (lv_at hl 0 rfl) ?_
  refine g9_10 C hw (hF 15 (by decide)) K_f_X9_13 dX9_lockLine_10 ?_
  refine lv_iconst (v := 0) hx hb dX9_lockLine_13 (by decide) ?_
  refine r_iald C hw 17 140 (hF 17 (by decide)) rfl (vp_lit (by decide)) dX9_lockLine_14 ?_
  refine lv_iconst (v := 1) hx hb dX9_lockLine_15 (by decide) ?_
  refine lv_isub hx hb dX9_lockLine_16 ?_
  refine done_i hw (my_runV (As := [.int 0, .int ((gA w1 17 0) - 1)]) (rest := [.int 7, .int 1]) C hw 15 9 (hF 15 (by decide)) rfl rfl (mt_X9_read l C.2.2.2.2.2.2.2 hF _ _ _ h) K_m_X9_122 K_i_X9_read K_v_X9_read K_n_X9 K_c_X9_read hy_X9_read ⟨Nat.le_of_ble_eq_true rfl, Nat.le_of_ble_eq_true rfl⟩ hl.1 rfl (Nat.le_of_ble_eq_true rfl) dX9_lockLine_17 ⟨Nat.zero_le _, Nat.zero_le _⟩) (fun r1 w2 H locs h hw => ?_)
  refine lv_imul hx hb dX9_lockLine_20 ?_
  refine lv_iadd hx hb dX9_lockLine_21 ?_
  refine lv_topi (fun y1 ey1 => ?_)
  have h := h y1 ey1
  refine lv_istore_n (lv' := [(1, .int y1), (0, .ref (eA E 15))]) hx hb dX9_lockLine_22 rfl hl (by decide) rfl (fun ls hl => ?_)
  refine lv_aload_n hx hb dX9_lockLine_23 rfl (lv_at hl 1 rfl) ?_
  refine lv_iconst (v := 1) hx hb dX9_lockLine_24 (by decide) ?_
  refine lv_aload_n hx hb dX9_lockLine_25 rfl (lv_at hl 1 rfl) ?_
  refine g9_8 C hw (hF 15 (by decide)) K_f_X9_79 dX9_lockLine_26 ?_
  refine lv_if_ne (tgt := 43) hx hb dX9_lockLine_29 (by decide) (fun c1 => ?_) (fun c1 => ?_)
  · have h := h.2 c1
    refine lv_iconst (v := 1) hx hb dX9_lockLine_43 (by decide) ?_
    refine done_i hw (my_runV (As := [.int 1, .int 1]) (rest := []) C hw 15 9 (hF 15 (by decide)) rfl rfl (mt_X9_look l C.2.2.2.2.2.2.2 hF _ _ _ h) K_m_X9_101 K_i_X9_look K_v_X9_look K_n_X9 K_c_X9_look hy_X9_look ⟨Nat.le_of_ble_eq_true rfl, Nat.le_of_ble_eq_true rfl⟩ hl.1 rfl (Nat.le_of_ble_eq_true rfl) dX9_lockLine_44 ⟨Nat.zero_le _, Nat.zero_le _⟩) (fun r2 w3 H locs h hw => ?_)
    refine lv_istore_n (lv' := [(2, .int r2), (1, .int y1), (0, .ref (eA E 15))]) hx hb dX9_lockLine_47 rfl hl (by decide) rfl (fun ls hl => ?_)
    refine lv_aload_n hx hb dX9_lockLine_48 rfl (lv_at hl 2 rfl) ?_
    refine g9_8 C hw (hF 15 (by decide)) K_f_X9_79 dX9_lockLine_49 ?_
    refine lv_if_ne (tgt := 81) hx hb dX9_lockLine_52 (by decide) (fun c2 => ?_) (fun c2 => ?_)
    · have h := h.2 c2
      refine lv_aload_n hx hb dX9_lockLine_81 rfl (lv_at hl 2 rfl) ?_
      refine done_v hw (my_runV (As := []) (rest := []) C hw 15 9 (hF 15 (by decide)) rfl rfl (mt_X9_goOn l C.2.2.2.2.2.2.2 hF _ h) K_m_X9_105 K_i_X9_goOn K_v_X9_goOn K_n_X9 K_c_X9_goOn hy_X9_goOn ⟨Nat.le_of_ble_eq_true rfl, Nat.le_of_ble_eq_true rfl⟩ hl.1 rfl (Nat.le_of_ble_eq_true rfl) dX9_lockLine_82 ⟨Nat.zero_le _, Nat.zero_le _⟩) (fun w4 H locs h hw => ?_)
      refine lv_aload_n hx hb dX9_lockLine_85 rfl (lv_at hl 2 rfl) ?_
      refine g9_8 C hw (hF 15 (by decide)) K_f_X9_79 dX9_lockLine_86 ?_
      refine lv_if_ne (tgt := 106) hx hb dX9_lockLine_89 (by decide) (fun c3 => ?_) (fun c3 => ?_)
      · have h := h.2 c3
        rw [hQ]
        exact ret_v C hr hlk hw h dX9_lockLine_106
      · have h := h.1 c3
        refine lv_aload_n hx hb dX9_lockLine_92 rfl (lv_at hl 2 rfl) ?_
        refine g9_10 C hw (hF 15 (by decide)) K_f_X9_13 dX9_lockLine_93 ?_
        refine lv_iload_n hx hb dX9_lockLine_96 rfl (lv_at hl 1 rfl) ?_
        refine lv_iconst (v := 3) hx hb dX9_lockLine_97 (by decide) ?_
        refine lv_iadd hx hb dX9_lockLine_98 ?_
        refine lv_topi (fun y2 ey2 => ?_)
        have h := h y2 ey2
        refine lv_dup2_11 hx hb dX9_lockLine_99 rfl rfl ?_
        obtain ⟨hi2, h⟩ := h
        refine r_iald C hw 17 140 (hF 17 (by decide)) rfl hi2 dX9_lockLine_100 ?_
        refine lv_iconst (v := 1) hx hb dX9_lockLine_101 (by decide) ?_
        refine lv_iload_n hx hb dX9_lockLine_102 rfl (lv_at hl 0 rfl) ?_
        refine lv_ishl hx hb dX9_lockLine_103 ?_
        refine lv_ior hx hb dX9_lockLine_104 ?_
        refine lv_topi (fun y3 ey3 => ?_)
        have h := h y3 ey3
        obtain ⟨hi3, h⟩ := h
        refine r_iast C hw 17 140 (hF 17 (by decide)) (fun _ => rfl) hi3 dX9_lockLine_105 (fun H locs hw => ?_)
        rw [hQ]
        exact ret_v C hr hlk hw h dX9_lockLine_106
    · have h := h.1 c2
      refine lv_aload_n hx hb dX9_lockLine_55 rfl (lv_at hl 2 rfl) ?_
      refine lv_aload_n hx hb dX9_lockLine_56 rfl (lv_at hl 2 rfl) ?_
      refine g9_10 C hw (hF 15 (by decide)) K_f_X9_13 dX9_lockLine_57 ?_
      refine lv_iload_n hx hb dX9_lockLine_60 rfl (lv_at hl 1 rfl) ?_
      refine lv_iconst (v := 3) hx hb dX9_lockLine_61 (by decide) ?_
      refine lv_iadd hx hb dX9_lockLine_62 ?_
      obtain ⟨hi4, h⟩ := h
      refine r_iald C hw 17 140 (hF 17 (by decide)) rfl hi4 dX9_lockLine_63 ?_
      refine lv_iload_n hx hb dX9_lockLine_64 rfl (lv_at hl 0 rfl) ?_
      refine done_i hw (my_runS (As := [.int (gA w3 17 ((y1 + 3).toNatClampNeg)), .int r2]) (rest := [.ref (eA E 15)]) C hw (mt_X9_has l C.2.2.2.2.2.2.2 hF _ _ _ h) K_m_X9_118 K_s_X9_has K_n_X9 K_c_X9_has hy_X9_has ⟨Nat.le_of_ble_eq_true rfl, Nat.le_of_ble_eq_true rfl⟩ hl.1 rfl (Nat.le_of_ble_eq_true rfl) dX9_lockLine_65 ⟨Nat.zero_le _, Nat.zero_le _⟩) (fun r3 w5 H locs h hw => ?_)
      refine lv_if_ne (tgt := 75) hx hb dX9_lockLine_68 (by decide) (fun c4 => ?_) (fun c4 => ?_)
      · have h := h.2 c4
        refine lv_iconst (v := 0) hx hb dX9_lockLine_75 (by decide) ?_
        refine lv_iconst (v := 3) hx hb dX9_lockLine_76 (by decide) ?_
        refine done_i hw (my_runV (As := [.int 0, .int 3]) (rest := []) C hw 15 9 (hF 15 (by decide)) rfl rfl (mt_X9_must l C.2.2.2.2.2.2.2 hF _ _ _ h) K_m_X9_94 K_i_X9_must K_v_X9_must K_n_X9 K_c_X9_must hy_X9_must ⟨Nat.le_of_ble_eq_true rfl, Nat.le_of_ble_eq_true rfl⟩ hl.1 rfl (Nat.le_of_ble_eq_true rfl) dX9_lockLine_77 ⟨Nat.zero_le _, Nat.zero_le _⟩) (fun r4 w6 H locs h hw => ?_)
        refine lv_pop hx hb dX9_lockLine_80 rfl ?_
        refine lv_aload_n hx hb dX9_lockLine_81 rfl (lv_at hl 2 rfl) ?_
        refine done_v hw (my_runV (As := []) (rest := []) C hw 15 9 (hF 15 (by decide)) rfl rfl (mt_X9_goOn l C.2.2.2.2.2.2.2 hF _ h) K_m_X9_105 K_i_X9_goOn K_v_X9_goOn K_n_X9 K_c_X9_goOn hy_X9_goOn ⟨Nat.le_of_ble_eq_true rfl, Nat.le_of_ble_eq_true rfl⟩ hl.1 rfl (Nat.le_of_ble_eq_true rfl) dX9_lockLine_82 ⟨Nat.zero_le _, Nat.zero_le _⟩) (fun w7 H locs h hw => ?_)
        refine lv_aload_n hx hb dX9_lockLine_85 rfl (lv_at hl 2 rfl) ?_
        refine g9_8 C hw (hF 15 (by decide)) K_f_X9_79 dX9_lockLine_86 ?_
        refine lv_if_ne (tgt := 106) hx hb dX9_lockLine_89 (by decide) (fun c5 => ?_) (fun c5 => ?_)
        · have h := h.2 c5
          rw [hQ]
          exact ret_v C hr hlk hw h dX9_lockLine_106
        · have h := h.1 c5
          refine lv_aload_n hx hb dX9_lockLine_92 rfl (lv_at hl 2 rfl) ?_
          refine g9_10 C hw (hF 15 (by decide)) K_f_X9_13 dX9_lockLine_93 ?_
          refine lv_iload_n hx hb dX9_lockLine_96 rfl (lv_at hl 1 rfl) ?_
          refine lv_iconst (v := 3) hx hb dX9_lockLine_97 (by decide) ?_
          refine lv_iadd hx hb dX9_lockLine_98 ?_
          refine lv_topi (fun y4 ey4 => ?_)
          have h := h y4 ey4
          refine lv_dup2_11 hx hb dX9_lockLine_99 rfl rfl ?_
          obtain ⟨hi5, h⟩ := h
          refine r_iald C hw 17 140 (hF 17 (by decide)) rfl hi5 dX9_lockLine_100 ?_
          refine lv_iconst (v := 1) hx hb dX9_lockLine_101 (by decide) ?_
          refine lv_iload_n hx hb dX9_lockLine_102 rfl (lv_at hl 0 rfl) ?_
          refine lv_ishl hx hb dX9_lockLine_103 ?_
          refine lv_ior hx hb dX9_lockLine_104 ?_
          refine lv_topi (fun y5 ey5 => ?_)
          have h := h y5 ey5
          obtain ⟨hi6, h⟩ := h
          refine r_iast C hw 17 140 (hF 17 (by decide)) (fun _ => rfl) hi6 dX9_lockLine_105 (fun H locs hw => ?_)
          rw [hQ]
          exact ret_v C hr hlk hw h dX9_lockLine_106
      · have h := h.1 c4
        refine lv_iconst (v := 1) hx hb dX9_lockLine_71 (by decide) ?_
        refine lv_goto (tgt := 76) hx hb dX9_lockLine_72 (by decide) ?_
        refine lv_iconst (v := 3) hx hb dX9_lockLine_76 (by decide) ?_
        refine done_i hw (my_runV (As := [.int 1, .int 3]) (rest := []) C hw 15 9 (hF 15 (by decide)) rfl rfl (mt_X9_must l C.2.2.2.2.2.2.2 hF _ _ _ h) K_m_X9_94 K_i_X9_must K_v_X9_must K_n_X9 K_c_X9_must hy_X9_must ⟨Nat.le_of_ble_eq_true rfl, Nat.le_of_ble_eq_true rfl⟩ hl.1 rfl (Nat.le_of_ble_eq_true rfl) dX9_lockLine_77 ⟨Nat.zero_le _, Nat.zero_le _⟩) (fun r5 w8 H locs h hw => ?_)
        refine lv_pop hx hb dX9_lockLine_80 rfl ?_
        refine lv_aload_n hx hb dX9_lockLine_81 rfl (lv_at hl 2 rfl) ?_
        refine done_v hw (my_runV (As := []) (rest := []) C hw 15 9 (hF 15 (by decide)) rfl rfl (mt_X9_goOn l C.2.2.2.2.2.2.2 hF _ h) K_m_X9_105 K_i_X9_goOn K_v_X9_goOn K_n_X9 K_c_X9_goOn hy_X9_goOn ⟨Nat.le_of_ble_eq_true rfl, Nat.le_of_ble_eq_true rfl⟩ hl.1 rfl (Nat.le_of_ble_eq_true rfl) dX9_lockLine_82 ⟨Nat.zero_le _, Nat.zero_le _⟩) (fun w9 H locs h hw => ?_)
        refine lv_aload_n hx hb dX9_lockLine_85 rfl (lv_at hl 2 rfl) ?_
        refine g9_8 C hw (hF 15 (by decide)) K_f_X9_79 dX9_lockLine_86 ?_
        refine lv_if_ne (tgt := 106) hx hb dX9_lockLine_89 (by decide) (fun c6 => ?_) (fun c6 => ?_)
        · have h := h.2 c6
          rw [hQ]
          exact ret_v C hr hlk hw h dX9_lockLine_106
        · have h := h.1 c6
          refine lv_aload_n hx hb dX9_lockLine_92 rfl (lv_at hl 2 rfl) ?_
          refine g9_10 C hw (hF 15 (by decide)) K_f_X9_13 dX9_lockLine_93 ?_
          refine lv_iload_n hx hb dX9_lockLine_96 rfl (lv_at hl 1 rfl) ?_
          refine lv_iconst (v := 3) hx hb dX9_lockLine_97 (by decide) ?_
          refine lv_iadd hx hb dX9_lockLine_98 ?_
          refine lv_topi (fun y6 ey6 => ?_)
          have h := h y6 ey6
          refine lv_dup2_11 hx hb dX9_lockLine_99 rfl rfl ?_
          obtain ⟨hi7, h⟩ := h
          refine r_iald C hw 17 140 (hF 17 (by decide)) rfl hi7 dX9_lockLine_100 ?_
          refine lv_iconst (v := 1) hx hb dX9_lockLine_101 (by decide) ?_
          refine lv_iload_n hx hb dX9_lockLine_102 rfl (lv_at hl 0 rfl) ?_
          refine lv_ishl hx hb dX9_lockLine_103 ?_
          refine lv_ior hx hb dX9_lockLine_104 ?_
          refine lv_topi (fun y7 ey7 => ?_)
          have h := h y7 ey7
          obtain ⟨hi8, h⟩ := h
          refine r_iast C hw 17 140 (hF 17 (by decide)) (fun _ => rfl) hi8 dX9_lockLine_105 (fun H locs hw => ?_)
          rw [hQ]
          exact ret_v C hr hlk hw h dX9_lockLine_106
  · have h := h.1 c1
    refine lv_aload_n hx hb dX9_lockLine_32 rfl (lv_at hl 1 rfl) ?_
    refine g9_10 C hw (hF 15 (by decide)) K_f_X9_13 dX9_lockLine_33 ?_
    refine lv_iload_n hx hb dX9_lockLine_36 rfl (lv_at hl 0 rfl) ?_
    refine lv_iconst (v := 0) hx hb dX9_lockLine_37 (by decide) ?_
    refine lv_iadd hx hb dX9_lockLine_38 ?_
    obtain ⟨hi9, h⟩ := h
    refine r_iald C hw 17 140 (hF 17 (by decide)) rfl hi9 dX9_lockLine_39 ?_
    refine lv_goto (tgt := 44) hx hb dX9_lockLine_40 (by decide) ?_
    refine done_i hw (my_runV (As := [.int 1, .int (gA w2 17 ((y1 + 0).toNatClampNeg))]) (rest := []) C hw 15 9 (hF 15 (by decide)) rfl rfl (mt_X9_look l C.2.2.2.2.2.2.2 hF _ _ _ h) K_m_X9_101 K_i_X9_look K_v_X9_look K_n_X9 K_c_X9_look hy_X9_look ⟨Nat.le_of_ble_eq_true rfl, Nat.le_of_ble_eq_true rfl⟩ hl.1 rfl (Nat.le_of_ble_eq_true rfl) dX9_lockLine_44 ⟨Nat.zero_le _, Nat.zero_le _⟩) (fun r6 w10 H locs h hw => ?_)
    refine lv_istore_n (lv' := [(2, .int r6), (1, .int y1), (0, .ref (eA E 15))]) hx hb dX9_lockLine_47 rfl hl (by decide) rfl (fun ls hl => ?_)
    refine lv_aload_n hx hb dX9_lockLine_48 rfl (lv_at hl 2 rfl) ?_
    refine g9_8 C hw (hF 15 (by decide)) K_f_X9_79 dX9_lockLine_49 ?_
    refine lv_if_ne (tgt := 81) hx hb dX9_lockLine_52 (by decide) (fun c7 => ?_) (fun c7 => ?_)
    · have h := h.2 c7
      refine lv_aload_n hx hb dX9_lockLine_81 rfl (lv_at hl 2 rfl) ?_
      refine done_v hw (my_runV (As := []) (rest := []) C hw 15 9 (hF 15 (by decide)) rfl rfl (mt_X9_goOn l C.2.2.2.2.2.2.2 hF _ h) K_m_X9_105 K_i_X9_goOn K_v_X9_goOn K_n_X9 K_c_X9_goOn hy_X9_goOn ⟨Nat.le_of_ble_eq_true rfl, Nat.le_of_ble_eq_true rfl⟩ hl.1 rfl (Nat.le_of_ble_eq_true rfl) dX9_lockLine_82 ⟨Nat.zero_le _, Nat.zero_le _⟩) (fun w11 H locs h hw => ?_)
      refine lv_aload_n hx hb dX9_lockLine_85 rfl (lv_at hl 2 rfl) ?_
      refine g9_8 C hw (hF 15 (by decide)) K_f_X9_79 dX9_lockLine_86 ?_
      refine lv_if_ne (tgt := 106) hx hb dX9_lockLine_89 (by decide) (fun c8 => ?_) (fun c8 => ?_)
      · have h := h.2 c8
        rw [hQ]
        exact ret_v C hr hlk hw h dX9_lockLine_106
      · have h := h.1 c8
        refine lv_aload_n hx hb dX9_lockLine_92 rfl (lv_at hl 2 rfl) ?_
        refine g9_10 C hw (hF 15 (by decide)) K_f_X9_13 dX9_lockLine_93 ?_
        refine lv_iload_n hx hb dX9_lockLine_96 rfl (lv_at hl 1 rfl) ?_
        refine lv_iconst (v := 3) hx hb dX9_lockLine_97 (by decide) ?_
        refine lv_iadd hx hb dX9_lockLine_98 ?_
        refine lv_topi (fun y8 ey8 => ?_)
        have h := h y8 ey8
        refine lv_dup2_11 hx hb dX9_lockLine_99 rfl rfl ?_
        obtain ⟨hi10, h⟩ := h
        refine r_iald C hw 17 140 (hF 17 (by decide)) rfl hi10 dX9_lockLine_100 ?_
        refine lv_iconst (v := 1) hx hb dX9_lockLine_101 (by decide) ?_
        refine lv_iload_n hx hb dX9_lockLine_102 rfl (lv_at hl 0 rfl) ?_
        refine lv_ishl hx hb dX9_lockLine_103 ?_
        refine lv_ior hx hb dX9_lockLine_104 ?_
        refine lv_topi (fun y9 ey9 => ?_)
        have h := h y9 ey9
        obtain ⟨hi11, h⟩ := h
        refine r_iast C hw 17 140 (hF 17 (by decide)) (fun _ => rfl) hi11 dX9_lockLine_105 (fun H locs hw => ?_)
        rw [hQ]
        exact ret_v C hr hlk hw h dX9_lockLine_106
    · have h := h.1 c7
      refine lv_aload_n hx hb dX9_lockLine_55 rfl (lv_at hl 2 rfl) ?_
      refine lv_aload_n hx hb dX9_lockLine_56 rfl (lv_at hl 2 rfl) ?_
      refine g9_10 C hw (hF 15 (by decide)) K_f_X9_13 dX9_lockLine_57 ?_
      refine lv_iload_n hx hb dX9_lockLine_60 rfl (lv_at hl 1 rfl) ?_
      refine lv_iconst (v := 3) hx hb dX9_lockLine_61 (by decide) ?_
      refine lv_iadd hx hb dX9_lockLine_62 ?_
      obtain ⟨hi12, h⟩ := h
      refine r_iald C hw 17 140 (hF 17 (by decide)) rfl hi12 dX9_lockLine_63 ?_
      refine lv_iload_n hx hb dX9_lockLine_64 rfl (lv_at hl 0 rfl) ?_
      refine done_i hw (my_runS (As := [.int (gA w10 17 ((y1 + 3).toNatClampNeg)), .int r6]) (rest := [.ref (eA E 15)]) C hw (mt_X9_has l C.2.2.2.2.2.2.2 hF _ _ _ h) K_m_X9_118 K_s_X9_has K_n_X9 K_c_X9_has hy_X9_has ⟨Nat.le_of_ble_eq_true rfl, Nat.le_of_ble_eq_true rfl⟩ hl.1 rfl (Nat.le_of_ble_eq_true rfl) dX9_lockLine_65 ⟨Nat.zero_le _, Nat.zero_le _⟩) (fun r7 w12 H locs h hw => ?_)
      refine lv_if_ne (tgt := 75) hx hb dX9_lockLine_68 (by decide) (fun c9 => ?_) (fun c9 => ?_)
      · have h := h.2 c9
        refine lv_iconst (v := 0) hx hb dX9_lockLine_75 (by decide) ?_
        refine lv_iconst (v := 3) hx hb dX9_lockLine_76 (by decide) ?_
        refine done_i hw (my_runV (As := [.int 0, .int 3]) (rest := []) C hw 15 9 (hF 15 (by decide)) rfl rfl (mt_X9_must l C.2.2.2.2.2.2.2 hF _ _ _ h) K_m_X9_94 K_i_X9_must K_v_X9_must K_n_X9 K_c_X9_must hy_X9_must ⟨Nat.le_of_ble_eq_true rfl, Nat.le_of_ble_eq_true rfl⟩ hl.1 rfl (Nat.le_of_ble_eq_true rfl) dX9_lockLine_77 ⟨Nat.zero_le _, Nat.zero_le _⟩) (fun r8 w13 H locs h hw => ?_)
        refine lv_pop hx hb dX9_lockLine_80 rfl ?_
        refine lv_aload_n hx hb dX9_lockLine_81 rfl (lv_at hl 2 rfl) ?_
        refine done_v hw (my_runV (As := []) (rest := []) C hw 15 9 (hF 15 (by decide)) rfl rfl (mt_X9_goOn l C.2.2.2.2.2.2.2 hF _ h) K_m_X9_105 K_i_X9_goOn K_v_X9_goOn K_n_X9 K_c_X9_goOn hy_X9_goOn ⟨Nat.le_of_ble_eq_true rfl, Nat.le_of_ble_eq_true rfl⟩ hl.1 rfl (Nat.le_of_ble_eq_true rfl) dX9_lockLine_82 ⟨Nat.zero_le _, Nat.zero_le _⟩) (fun w14 H locs h hw => ?_)
        refine lv_aload_n hx hb dX9_lockLine_85 rfl (lv_at hl 2 rfl) ?_
        refine g9_8 C hw (hF 15 (by decide)) K_f_X9_79 dX9_lockLine_86 ?_
        refine lv_if_ne (tgt := 106) hx hb dX9_lockLine_89 (by decide) (fun c10 => ?_) (fun c10 => ?_)
        · have h := h.2 c10
          rw [hQ]
          exact ret_v C hr hlk hw h dX9_lockLine_106
        · have h := h.1 c10
          refine lv_aload_n hx hb dX9_lockLine_92 rfl (lv_at hl 2 rfl) ?_
          refine g9_10 C hw (hF 15 (by decide)) K_f_X9_13 dX9_lockLine_93 ?_
          refine lv_iload_n hx hb dX9_lockLine_96 rfl (lv_at hl 1 rfl) ?_
          refine lv_iconst (v := 3) hx hb dX9_lockLine_97 (by decide) ?_
          refine lv_iadd hx hb dX9_lockLine_98 ?_
          refine lv_topi (fun y10 ey10 => ?_)
          have h := h y10 ey10
          refine lv_dup2_11 hx hb dX9_lockLine_99 rfl rfl ?_
          obtain ⟨hi13, h⟩ := h
          refine r_iald C hw 17 140 (hF 17 (by decide)) rfl hi13 dX9_lockLine_100 ?_
          refine lv_iconst (v := 1) hx hb dX9_lockLine_101 (by decide) ?_
          refine lv_iload_n hx hb dX9_lockLine_102 rfl (lv_at hl 0 rfl) ?_
          refine lv_ishl hx hb dX9_lockLine_103 ?_
          refine lv_ior hx hb dX9_lockLine_104 ?_
          refine lv_topi (fun y11 ey11 => ?_)
          have h := h y11 ey11
          obtain ⟨hi14, h⟩ := h
          refine r_iast C hw 17 140 (hF 17 (by decide)) (fun _ => rfl) hi14 dX9_lockLine_105 (fun H locs hw => ?_)
          rw [hQ]
          exact ret_v C hr hlk hw h dX9_lockLine_106
      · have h := h.1 c9
        refine lv_iconst (v := 1) hx hb dX9_lockLine_71 (by decide) ?_
        refine lv_goto (tgt := 76) hx hb dX9_lockLine_72 (by decide) ?_
        refine lv_iconst (v := 3) hx hb dX9_lockLine_76 (by decide) ?_
        refine done_i hw (my_runV (As := [.int 1, .int 3]) (rest := []) C hw 15 9 (hF 15 (by decide)) rfl rfl (mt_X9_must l C.2.2.2.2.2.2.2 hF _ _ _ h) K_m_X9_94 K_i_X9_must K_v_X9_must K_n_X9 K_c_X9_must hy_X9_must ⟨Nat.le_of_ble_eq_true rfl, Nat.le_of_ble_eq_true rfl⟩ hl.1 rfl (Nat.le_of_ble_eq_true rfl) dX9_lockLine_77 ⟨Nat.zero_le _, Nat.zero_le _⟩) (fun r9 w15 H locs h hw => ?_)
        refine lv_pop hx hb dX9_lockLine_80 rfl ?_
        refine lv_aload_n hx hb dX9_lockLine_81 rfl (lv_at hl 2 rfl) ?_
        refine done_v hw (my_runV (As := []) (rest := []) C hw 15 9 (hF 15 (by decide)) rfl rfl (mt_X9_goOn l C.2.2.2.2.2.2.2 hF _ h) K_m_X9_105 K_i_X9_goOn K_v_X9_goOn K_n_X9 K_c_X9_goOn hy_X9_goOn ⟨Nat.le_of_ble_eq_true rfl, Nat.le_of_ble_eq_true rfl⟩ hl.1 rfl (Nat.le_of_ble_eq_true rfl) dX9_lockLine_82 ⟨Nat.zero_le _, Nat.zero_le _⟩) (fun w16 H locs h hw => ?_)
        refine lv_aload_n hx hb dX9_lockLine_85 rfl (lv_at hl 2 rfl) ?_
        refine g9_8 C hw (hF 15 (by decide)) K_f_X9_79 dX9_lockLine_86 ?_
        refine lv_if_ne (tgt := 106) hx hb dX9_lockLine_89 (by decide) (fun c11 => ?_) (fun c11 => ?_)
        · have h := h.2 c11
          rw [hQ]
          exact ret_v C hr hlk hw h dX9_lockLine_106
        · have h := h.1 c11
          refine lv_aload_n hx hb dX9_lockLine_92 rfl (lv_at hl 2 rfl) ?_
          refine g9_10 C hw (hF 15 (by decide)) K_f_X9_13 dX9_lockLine_93 ?_
          refine lv_iload_n hx hb dX9_lockLine_96 rfl (lv_at hl 1 rfl) ?_
          refine lv_iconst (v := 3) hx hb dX9_lockLine_97 (by decide) ?_
          refine lv_iadd hx hb dX9_lockLine_98 ?_
          refine lv_topi (fun y12 ey12 => ?_)
          have h := h y12 ey12
          refine lv_dup2_11 hx hb dX9_lockLine_99 rfl rfl ?_
          obtain ⟨hi15, h⟩ := h
          refine r_iald C hw 17 140 (hF 17 (by decide)) rfl hi15 dX9_lockLine_100 ?_
          refine lv_iconst (v := 1) hx hb dX9_lockLine_101 (by decide) ?_
          refine lv_iload_n hx hb dX9_lockLine_102 rfl (lv_at hl 0 rfl) ?_
          refine lv_ishl hx hb dX9_lockLine_103 ?_
          refine lv_ior hx hb dX9_lockLine_104 ?_
          refine lv_topi (fun y13 ey13 => ?_)
          have h := h y13 ey13
          obtain ⟨hi16, h⟩ := h
          refine r_iast C hw 17 140 (hF 17 (by decide)) (fun _ => rfl) hi16 dX9_lockLine_105 (fun H locs hw => ?_)
          rw [hQ]
          exact ret_v C hr hlk hw h dX9_lockLine_106
theorem hy_X9_tokensLine : yX9_tokensLine.cls ≠ "java/lang/invoke/MethodHandle" ∧ yX9_tokensLine.cls ≠ "java/lang/invoke/VarHandle" ∧ (parseMethodDescriptor yX9_tokensLine.desc).map (fun d => d.parameters.length) = some 0 := by decide +kernel
def wp_X9_tokensLine (w : Wd) (Post : Wd → Prop) : Prop :=
  ∀ J32 : Int32 → Wd → Prop, (∀ (x1 : Int32) (w : Wd), ((3 ≤ x1 → (Post w)) ∧ (¬ 3 ≤ x1 → (wp_X9_read w 0 9 (fun r3 w5 => vp_in (43 + x1) 140 ∧ (vp_in (49 + x1) 140 ∧ (∀ y1 : Int32, y1 = x1 + 1 → (J32 y1 (sA (sA w5 17 ((43 + x1).toNatClampNeg) r3) 17 ((49 + x1).toNatClampNeg) r3)))))))) → J32 x1 w) →
  ((gI w 15 11) = 0 → (wp_X9_must w 1 3 (fun r2 w3 => (r2 = 0 → (Post w3)) ∧ (¬ r2 = 0 → (wp_X9_goOn (sI w3 15 11 1) (fun w4 => J32 0 w4)))))) ∧ (¬ (gI w 15 11) = 0 → (wp_X9_must w 0 3 (fun r1 w1 => (r1 = 0 → (Post w1)) ∧ (¬ r1 = 0 → (wp_X9_goOn (sI w1 15 11 1) (fun w2 => J32 0 w2))))))
set_option maxHeartbeats 4000000 in
set_option maxRecDepth 100000 in
theorem mt_X9_tokensLine (l : Launch) {E : En} (hI : Inj E) (hF : ∀ o, (15 ≤ o ∧ o < 25) → o ∈ eL E) (w : Wd) {Post : Wd → Prop} (h : wp_X9_tokensLine w Post) : MV l E yX9_tokensLine cX9_tokensLine 3 none 4 86 [.ref (eA E 15)] w Post := by
  refine MG.intro hI (by decide +kernel) (Nat.le_of_ble_eq_true rfl) ?_
  intro p e s m args below meth c Q C hr hlk hQ hw ls hl
  have hx := C.1
  have hb := C.2.1
  have hl : lv_has ls 3 [(0, .ref (eA E 15))] := hl
  unfold wp_X9_tokensLine at h
  have h := h (fun x1 w => Jp E p l e (Rm 4 86) s m args below meth c Q 3 32 [(0, .ref (eA E 15)), (1, .int x1)] w)
  have h := h ?_
  rotate_left
  · intro x1 w h H locs hw ls hl
    refine lv_iload_n hx hb dX9_tokensLine_32 rfl (lv_at hl 1 rfl) ?_
    refine lv_iconst (v := 3) hx hb dX9_tokensLine_33 (by decide) ?_
    refine lv_icmp_ge (tgt := 71) hx hb dX9_tokensLine_34 (by decide) (fun c4 => ?_) (fun c4 => ?_)
    · have h := h.1 c4
      rw [hQ]
      exact ret_v C hr hlk hw h dX9_tokensLine_71
    · have h := h.2 c4
      refine lv_aload_n hx hb dX9_tokensLine_37 rfl (lv_at hl 0 rfl) ?_
      refine lv_iconst (v := 0) hx hb dX9_tokensLine_38 (by decide) ?_
      refine lv_bipush (v := 9) hx hb dX9_tokensLine_39 (by decide) ?_
      refine done_i hw (my_runV (As := [.int 0, .int 9]) (rest := []) C hw 15 9 (hF 15 (by decide)) rfl rfl (mt_X9_read l C.2.2.2.2.2.2.2 hF _ _ _ h) K_m_X9_122 K_i_X9_read K_v_X9_read K_n_X9 K_c_X9_read hy_X9_read ⟨Nat.le_of_ble_eq_true rfl, Nat.le_of_ble_eq_true rfl⟩ hl.1 rfl (Nat.le_of_ble_eq_true rfl) dX9_tokensLine_41 ⟨Nat.zero_le _, Nat.zero_le _⟩) (fun r3 w5 H locs h hw => ?_)
      refine lv_istore_n (lv' := [(2, .int r3), (0, .ref (eA E 15)), (1, .int x1)]) hx hb dX9_tokensLine_44 rfl hl (by decide) rfl (fun ls hl => ?_)
      refine lv_aload_n hx hb dX9_tokensLine_45 rfl (lv_at hl 1 rfl) ?_
      refine g9_10 C hw (hF 15 (by decide)) K_f_X9_13 dX9_tokensLine_46 ?_
      refine lv_bipush (v := 43) hx hb dX9_tokensLine_49 (by decide) ?_
      refine lv_iload_n hx hb dX9_tokensLine_51 rfl (lv_at hl 2 rfl) ?_
      refine lv_iadd hx hb dX9_tokensLine_52 ?_
      refine lv_iload_n hx hb dX9_tokensLine_53 rfl (lv_at hl 0 rfl) ?_
      obtain ⟨hi1, h⟩ := h
      refine r_iast C hw 17 140 (hF 17 (by decide)) (fun _ => rfl) hi1 dX9_tokensLine_54 (fun H locs hw => ?_)
      refine lv_aload_n hx hb dX9_tokensLine_55 rfl (lv_at hl 1 rfl) ?_
      refine g9_10 C hw (hF 15 (by decide)) K_f_X9_13 dX9_tokensLine_56 ?_
      refine lv_bipush (v := 49) hx hb dX9_tokensLine_59 (by decide) ?_
      refine lv_iload_n hx hb dX9_tokensLine_61 rfl (lv_at hl 2 rfl) ?_
      refine lv_iadd hx hb dX9_tokensLine_62 ?_
      refine lv_iload_n hx hb dX9_tokensLine_63 rfl (lv_at hl 0 rfl) ?_
      obtain ⟨hi2, h⟩ := h
      refine r_iast C hw 17 140 (hF 17 (by decide)) (fun _ => rfl) hi2 dX9_tokensLine_64 (fun H locs hw => ?_)
      obtain ⟨y1, ey1⟩ : ∃ y : Int32, y = x1 + 1 := ⟨_, rfl⟩
      have h := h y1 ey1
      refine lv_iinc (v := y1) (lv' := [(1, .int y1), (2, .int r3), (0, .ref (eA E 15))]) hx hb dX9_tokensLine_65 hl (k := 2) rfl (by rw [ey1]; first | rfl | decide) (by decide) rfl (fun ls hl => ?_)
      refine lv_goto (tgt := 32) hx hb dX9_tokensLine_68 (by decide) ?_
      exact h _ _ hw _ (lv_sub hl [2, 0] rfl)
  refine lv_aload_n hx hb dX9_tokensLine_0 rfl (lv_at hl 0 rfl) ?_
  refine lv_aload_n hx hb dX9_tokensLine_1 rfl (lv_at hl 0 rfl) ?_
  refine g9_11 C hw (hF 15 (by decide)) K_f_X9_108 dX9_tokensLine_2 ?_
  refine lv_if_ne (tgt := 12) hx hb dX9_tokensLine_5 (by decide) (fun c1 => ?_) (fun c1 => ?_)
  · have h := h.2 c1
    refine lv_iconst (v := 0) hx hb dX9_tokensLine_12 (by decide) ?_
    refine lv_iconst (v := 3) hx hb dX9_tokensLine_13 (by decide) ?_
    refine done_i hw (my_runV (As := [.int 0, .int 3]) (rest := []) C hw 15 9 (hF 15 (by decide)) rfl rfl (mt_X9_must l C.2.2.2.2.2.2.2 hF _ _ _ h) K_m_X9_94 K_i_X9_must K_v_X9_must K_n_X9 K_c_X9_must hy_X9_must ⟨Nat.le_of_ble_eq_true rfl, Nat.le_of_ble_eq_true rfl⟩ hl.1 rfl (Nat.le_of_ble_eq_true rfl) dX9_tokensLine_14 ⟨Nat.zero_le _, Nat.zero_le _⟩) (fun r1 w1 H locs h hw => ?_)
    refine lv_if_ne (tgt := 21) hx hb dX9_tokensLine_17 (by decide) (fun c2 => ?_) (fun c2 => ?_)
    · have h := h.2 c2
      refine lv_aload_n hx hb dX9_tokensLine_21 rfl (lv_at hl 0 rfl) ?_
      refine lv_iconst (v := 1) hx hb dX9_tokensLine_22 (by decide) ?_
      refine p9_11 C hw (hF 15 (by decide)) (by decide) K_f_X9_108 dX9_tokensLine_23 (fun H locs hw => ?_)
      refine lv_aload_n hx hb dX9_tokensLine_26 rfl (lv_at hl 0 rfl) ?_
      refine done_v hw (my_runV (As := []) (rest := []) C hw 15 9 (hF 15 (by decide)) rfl rfl (mt_X9_goOn l C.2.2.2.2.2.2.2 hF _ h) K_m_X9_105 K_i_X9_goOn K_v_X9_goOn K_n_X9 K_c_X9_goOn hy_X9_goOn ⟨Nat.le_of_ble_eq_true rfl, Nat.le_of_ble_eq_true rfl⟩ hl.1 rfl (Nat.le_of_ble_eq_true rfl) dX9_tokensLine_27 ⟨Nat.zero_le _, Nat.zero_le _⟩) (fun w2 H locs h hw => ?_)
      refine lv_iconst (v := 0) hx hb dX9_tokensLine_30 (by decide) ?_
      refine lv_istore_n (lv' := [(1, .int 0), (0, .ref (eA E 15))]) hx hb dX9_tokensLine_31 rfl hl (by decide) rfl (fun ls hl => ?_)
      exact h _ _ hw _ (lv_sub hl [1, 0] rfl)
    · have h := h.1 c2
      rw [hQ]
      exact ret_v C hr hlk hw h dX9_tokensLine_20
  · have h := h.1 c1
    refine lv_iconst (v := 1) hx hb dX9_tokensLine_8 (by decide) ?_
    refine lv_goto (tgt := 13) hx hb dX9_tokensLine_9 (by decide) ?_
    refine lv_iconst (v := 3) hx hb dX9_tokensLine_13 (by decide) ?_
    refine done_i hw (my_runV (As := [.int 1, .int 3]) (rest := []) C hw 15 9 (hF 15 (by decide)) rfl rfl (mt_X9_must l C.2.2.2.2.2.2.2 hF _ _ _ h) K_m_X9_94 K_i_X9_must K_v_X9_must K_n_X9 K_c_X9_must hy_X9_must ⟨Nat.le_of_ble_eq_true rfl, Nat.le_of_ble_eq_true rfl⟩ hl.1 rfl (Nat.le_of_ble_eq_true rfl) dX9_tokensLine_14 ⟨Nat.zero_le _, Nat.zero_le _⟩) (fun r2 w3 H locs h hw => ?_)
    refine lv_if_ne (tgt := 21) hx hb dX9_tokensLine_17 (by decide) (fun c3 => ?_) (fun c3 => ?_)
    · have h := h.2 c3
      refine lv_aload_n hx hb dX9_tokensLine_21 rfl (lv_at hl 0 rfl) ?_
      refine lv_iconst (v := 1) hx hb dX9_tokensLine_22 (by decide) ?_
      refine p9_11 C hw (hF 15 (by decide)) (by decide) K_f_X9_108 dX9_tokensLine_23 (fun H locs hw => ?_)
      refine lv_aload_n hx hb dX9_tokensLine_26 rfl (lv_at hl 0 rfl) ?_
      refine done_v hw (my_runV (As := []) (rest := []) C hw 15 9 (hF 15 (by decide)) rfl rfl (mt_X9_goOn l C.2.2.2.2.2.2.2 hF _ h) K_m_X9_105 K_i_X9_goOn K_v_X9_goOn K_n_X9 K_c_X9_goOn hy_X9_goOn ⟨Nat.le_of_ble_eq_true rfl, Nat.le_of_ble_eq_true rfl⟩ hl.1 rfl (Nat.le_of_ble_eq_true rfl) dX9_tokensLine_27 ⟨Nat.zero_le _, Nat.zero_le _⟩) (fun w4 H locs h hw => ?_)
      refine lv_iconst (v := 0) hx hb dX9_tokensLine_30 (by decide) ?_
      refine lv_istore_n (lv' := [(1, .int 0), (0, .ref (eA E 15))]) hx hb dX9_tokensLine_31 rfl hl (by decide) rfl (fun ls hl => ?_)
      exact h _ _ hw _ (lv_sub hl [1, 0] rfl)
    · have h := h.1 c3
      rw [hQ]
      exact ret_v C hr hlk hw h dX9_tokensLine_20
theorem hy_X9_firstLine : yX9_firstLine.cls ≠ "java/lang/invoke/MethodHandle" ∧ yX9_firstLine.cls ≠ "java/lang/invoke/VarHandle" ∧ (parseMethodDescriptor yX9_firstLine.desc).map (fun d => d.parameters.length) = some 0 := by decide +kernel
def wp_X9_firstLine (w : Wd) (Post : Wd → Prop) : Prop :=
  ((gI w 15 12) = 0 → (wp_X9_must w 1 3 (fun r3 w4 => (r3 = 0 → (Post w4)) ∧ (¬ r3 = 0 → (wp_X9_goOn (sI w4 15 12 1) (fun w5 => wp_X9_read w5 0 1 (fun r4 w6 => Post (sA w6 17 55 r4)))))))) ∧ (¬ (gI w 15 12) = 0 → (wp_X9_must w 0 3 (fun r1 w1 => (r1 = 0 → (Post w1)) ∧ (¬ r1 = 0 → (wp_X9_goOn (sI w1 15 12 1) (fun w2 => wp_X9_read w2 0 1 (fun r2 w3 => Post (sA w3 17 55 r2))))))))
set_option maxHeartbeats 4000000 in
set_option maxRecDepth 100000 in
theorem mt_X9_firstLine (l : Launch) {E : En} (hI : Inj E) (hF : ∀ o, (15 ≤ o ∧ o < 25) → o ∈ eL E) (w : Wd) {Post : Wd → Prop} (h : wp_X9_firstLine w Post) : MV l E yX9_firstLine cX9_firstLine 1 none 4 86 [.ref (eA E 15)] w Post := by
  refine MG.intro hI (by decide +kernel) (Nat.le_of_ble_eq_true rfl) ?_
  intro p e s m args below meth c Q C hr hlk hQ hw ls hl
  have hx := C.1
  have hb := C.2.1
  have hl : lv_has ls 1 [(0, .ref (eA E 15))] := hl
  unfold wp_X9_firstLine at h
  refine lv_aload_n hx hb dX9_firstLine_0 rfl (lv_at hl 0 rfl) ?_
  refine lv_aload_n hx hb dX9_firstLine_1 rfl (lv_at hl 0 rfl) ?_
  refine g9_12 C hw (hF 15 (by decide)) K_f_X9_112 dX9_firstLine_2 ?_
  refine lv_if_ne (tgt := 12) hx hb dX9_firstLine_5 (by decide) (fun c1 => ?_) (fun c1 => ?_)
  · have h := h.2 c1
    refine lv_iconst (v := 0) hx hb dX9_firstLine_12 (by decide) ?_
    refine lv_iconst (v := 3) hx hb dX9_firstLine_13 (by decide) ?_
    refine done_i hw (my_runV (As := [.int 0, .int 3]) (rest := []) C hw 15 9 (hF 15 (by decide)) rfl rfl (mt_X9_must l C.2.2.2.2.2.2.2 hF _ _ _ h) K_m_X9_94 K_i_X9_must K_v_X9_must K_n_X9 K_c_X9_must hy_X9_must ⟨Nat.le_of_ble_eq_true rfl, Nat.le_of_ble_eq_true rfl⟩ hl.1 rfl (Nat.le_of_ble_eq_true rfl) dX9_firstLine_14 ⟨Nat.zero_le _, Nat.zero_le _⟩) (fun r1 w1 H locs h hw => ?_)
    refine lv_if_ne (tgt := 21) hx hb dX9_firstLine_17 (by decide) (fun c2 => ?_) (fun c2 => ?_)
    · have h := h.2 c2
      refine lv_aload_n hx hb dX9_firstLine_21 rfl (lv_at hl 0 rfl) ?_
      refine lv_iconst (v := 1) hx hb dX9_firstLine_22 (by decide) ?_
      refine p9_12 C hw (hF 15 (by decide)) (by decide) K_f_X9_112 dX9_firstLine_23 (fun H locs hw => ?_)
      refine lv_aload_n hx hb dX9_firstLine_26 rfl (lv_at hl 0 rfl) ?_
      refine done_v hw (my_runV (As := []) (rest := []) C hw 15 9 (hF 15 (by decide)) rfl rfl (mt_X9_goOn l C.2.2.2.2.2.2.2 hF _ h) K_m_X9_105 K_i_X9_goOn K_v_X9_goOn K_n_X9 K_c_X9_goOn hy_X9_goOn ⟨Nat.le_of_ble_eq_true rfl, Nat.le_of_ble_eq_true rfl⟩ hl.1 rfl (Nat.le_of_ble_eq_true rfl) dX9_firstLine_27 ⟨Nat.zero_le _, Nat.zero_le _⟩) (fun w2 H locs h hw => ?_)
      refine lv_aload_n hx hb dX9_firstLine_30 rfl (lv_at hl 0 rfl) ?_
      refine g9_10 C hw (hF 15 (by decide)) K_f_X9_13 dX9_firstLine_31 ?_
      refine lv_bipush (v := 55) hx hb dX9_firstLine_34 (by decide) ?_
      refine lv_aload_n hx hb dX9_firstLine_36 rfl (lv_at hl 0 rfl) ?_
      refine lv_iconst (v := 0) hx hb dX9_firstLine_37 (by decide) ?_
      refine lv_iconst (v := 1) hx hb dX9_firstLine_38 (by decide) ?_
      refine done_i hw (my_runV (As := [.int 0, .int 1]) (rest := [.int 55, .ref (eA E 17)]) C hw 15 9 (hF 15 (by decide)) rfl rfl (mt_X9_read l C.2.2.2.2.2.2.2 hF _ _ _ h) K_m_X9_122 K_i_X9_read K_v_X9_read K_n_X9 K_c_X9_read hy_X9_read ⟨Nat.le_of_ble_eq_true rfl, Nat.le_of_ble_eq_true rfl⟩ hl.1 rfl (Nat.le_of_ble_eq_true rfl) dX9_firstLine_39 ⟨Nat.zero_le _, Nat.zero_le _⟩) (fun r2 w3 H locs h hw => ?_)
      refine r_iast C hw 17 140 (hF 17 (by decide)) (fun _ => rfl) (vp_lit (by decide)) dX9_firstLine_42 (fun H locs hw => ?_)
      rw [hQ]
      exact ret_v C hr hlk hw h dX9_firstLine_43
    · have h := h.1 c2
      rw [hQ]
      exact ret_v C hr hlk hw h dX9_firstLine_20
  · have h := h.1 c1
    refine lv_iconst (v := 1) hx hb dX9_firstLine_8 (by decide) ?_
    refine lv_goto (tgt := 13) hx hb dX9_firstLine_9 (by decide) ?_
    refine lv_iconst (v := 3) hx hb dX9_firstLine_13 (by decide) ?_
    refine done_i hw (my_runV (As := [.int 1, .int 3]) (rest := []) C hw 15 9 (hF 15 (by decide)) rfl rfl (mt_X9_must l C.2.2.2.2.2.2.2 hF _ _ _ h) K_m_X9_94 K_i_X9_must K_v_X9_must K_n_X9 K_c_X9_must hy_X9_must ⟨Nat.le_of_ble_eq_true rfl, Nat.le_of_ble_eq_true rfl⟩ hl.1 rfl (Nat.le_of_ble_eq_true rfl) dX9_firstLine_14 ⟨Nat.zero_le _, Nat.zero_le _⟩) (fun r3 w4 H locs h hw => ?_)
    refine lv_if_ne (tgt := 21) hx hb dX9_firstLine_17 (by decide) (fun c3 => ?_) (fun c3 => ?_)
    · have h := h.2 c3
      refine lv_aload_n hx hb dX9_firstLine_21 rfl (lv_at hl 0 rfl) ?_
      refine lv_iconst (v := 1) hx hb dX9_firstLine_22 (by decide) ?_
      refine p9_12 C hw (hF 15 (by decide)) (by decide) K_f_X9_112 dX9_firstLine_23 (fun H locs hw => ?_)
      refine lv_aload_n hx hb dX9_firstLine_26 rfl (lv_at hl 0 rfl) ?_
      refine done_v hw (my_runV (As := []) (rest := []) C hw 15 9 (hF 15 (by decide)) rfl rfl (mt_X9_goOn l C.2.2.2.2.2.2.2 hF _ h) K_m_X9_105 K_i_X9_goOn K_v_X9_goOn K_n_X9 K_c_X9_goOn hy_X9_goOn ⟨Nat.le_of_ble_eq_true rfl, Nat.le_of_ble_eq_true rfl⟩ hl.1 rfl (Nat.le_of_ble_eq_true rfl) dX9_firstLine_27 ⟨Nat.zero_le _, Nat.zero_le _⟩) (fun w5 H locs h hw => ?_)
      refine lv_aload_n hx hb dX9_firstLine_30 rfl (lv_at hl 0 rfl) ?_
      refine g9_10 C hw (hF 15 (by decide)) K_f_X9_13 dX9_firstLine_31 ?_
      refine lv_bipush (v := 55) hx hb dX9_firstLine_34 (by decide) ?_
      refine lv_aload_n hx hb dX9_firstLine_36 rfl (lv_at hl 0 rfl) ?_
      refine lv_iconst (v := 0) hx hb dX9_firstLine_37 (by decide) ?_
      refine lv_iconst (v := 1) hx hb dX9_firstLine_38 (by decide) ?_
      refine done_i hw (my_runV (As := [.int 0, .int 1]) (rest := [.int 55, .ref (eA E 17)]) C hw 15 9 (hF 15 (by decide)) rfl rfl (mt_X9_read l C.2.2.2.2.2.2.2 hF _ _ _ h) K_m_X9_122 K_i_X9_read K_v_X9_read K_n_X9 K_c_X9_read hy_X9_read ⟨Nat.le_of_ble_eq_true rfl, Nat.le_of_ble_eq_true rfl⟩ hl.1 rfl (Nat.le_of_ble_eq_true rfl) dX9_firstLine_39 ⟨Nat.zero_le _, Nat.zero_le _⟩) (fun r4 w6 H locs h hw => ?_)
      refine r_iast C hw 17 140 (hF 17 (by decide)) (fun _ => rfl) (vp_lit (by decide)) dX9_firstLine_42 (fun H locs hw => ?_)
      rw [hQ]
      exact ret_v C hr hlk hw h dX9_firstLine_43
    · have h := h.1 c3
      rw [hQ]
      exact ret_v C hr hlk hw h dX9_firstLine_20
theorem hy_X9_copy : yX9_copy.cls ≠ "java/lang/invoke/MethodHandle" ∧ yX9_copy.cls ≠ "java/lang/invoke/VarHandle" ∧ (parseMethodDescriptor yX9_copy.desc).map (fun d => d.parameters.length) = some 4 := by decide +kernel
def wp_X9_copy (o0 n0 : Nat) (o2 n2 : Nat) (w : Wd) (p1 : Int32) (p3 : Int32) (Post : Wd → Prop) : Prop :=
  ∀ J3 : Int32 → Wd → Prop, (∀ (x4 : Int32) (w : Wd), ((140 ≤ x4 → (Post w)) ∧ (¬ 140 ≤ x4 → (vp_in ((140 * p1) + x4) n0 ∧ (∀ y1 : Int32, y1 = gA w o0 (((140 * p1) + x4).toNatClampNeg) → (vp_in ((140 * p3) + x4) n2 ∧ (∀ y2 : Int32, y2 = x4 + 1 → (J3 y2 (sA w o2 (((140 * p3) + x4).toNatClampNeg) y1)))))))) → J3 x4 w) →
  J3 0 w
set_option maxHeartbeats 4000000 in
set_option maxRecDepth 100000 in
theorem mt_X9_copy (l : Launch) {E : En} (hI : Inj E) (hF : ∀ o, (15 ≤ o ∧ o < 25) → o ∈ eL E) (o0 n0 : Nat) (ho0 : o0 ∈ eL E) (hc0 : ∀ w, ce E w o0 = .inl (eC E 0, n0, .inl (w.2.1 o0))) (o2 n2 : Nat) (ho2 : o2 ∈ eL E) (hc2 : ∀ w, ce E w o2 = .inl (eC E 0, n2, .inl (w.2.1 o2))) (w : Wd) (p1 : Int32) (p3 : Int32) {Post : Wd → Prop} (h : wp_X9_copy o0 n0 o2 n2 w p1 p3 Post) : MV l E yX9_copy cX9_copy 5 none 0 0 [.ref (eA E o0), .int p1, .ref (eA E o2), .int p3] w Post := by
  refine MG.intro hI (by decide +kernel) (Nat.le_of_ble_eq_true rfl) ?_
  intro p e s m args below meth c Q C hr hlk hQ hw ls hl
  have hx := C.1
  have hb := C.2.1
  have hl : lv_has ls 5 [(0, .ref (eA E o0)), (1, .int p1), (2, .ref (eA E o2)), (3, .int p3)] := hl
  unfold wp_X9_copy at h
  have h := h (fun x4 w => Jp E p l e (Rm 0 0) s m args below meth c Q 5 3 [(0, .ref (eA E o0)), (1, .int p1), (2, .ref (eA E o2)), (3, .int p3), (4, .int x4)] w)
  have h := h ?_
  rotate_left
  · intro x4 w h H locs hw ls hl
    refine lv_iload hx hb dX9_copy_3 (lv_at hl 4 rfl) ?_
    refine lv_sipush (v := 140) hx hb dX9_copy_5 (by decide) ?_
    refine lv_icmp_ge (tgt := 37) hx hb dX9_copy_8 (by decide) (fun c1 => ?_) (fun c1 => ?_)
    · have h := h.1 c1
      rw [hQ]
      exact ret_v C hr hlk hw h dX9_copy_37
    · have h := h.2 c1
      refine lv_aload_n hx hb dX9_copy_11 rfl (lv_at hl 2 rfl) ?_
      refine lv_sipush (v := 140) hx hb dX9_copy_12 (by decide) ?_
      refine lv_iload_n hx hb dX9_copy_15 rfl (lv_at hl 3 rfl) ?_
      refine lv_imul hx hb dX9_copy_16 ?_
      refine lv_iload hx hb dX9_copy_17 (lv_at hl 4 rfl) ?_
      refine lv_iadd hx hb dX9_copy_19 ?_
      refine lv_aload_n hx hb dX9_copy_20 rfl (lv_at hl 0 rfl) ?_
      refine lv_sipush (v := 140) hx hb dX9_copy_21 (by decide) ?_
      refine lv_iload_n hx hb dX9_copy_24 rfl (lv_at hl 1 rfl) ?_
      refine lv_imul hx hb dX9_copy_25 ?_
      refine lv_iload hx hb dX9_copy_26 (lv_at hl 4 rfl) ?_
      refine lv_iadd hx hb dX9_copy_28 ?_
      obtain ⟨hi1, h⟩ := h
      refine r_iald C hw o0 n0 ho0 (hc0 _) hi1 dX9_copy_29 ?_
      refine lv_topi (fun y1 ey1 => ?_)
      have h := h y1 ey1
      obtain ⟨hi2, h⟩ := h
      refine r_iast C hw o2 n2 ho2 hc2 hi2 dX9_copy_30 (fun H locs hw => ?_)
      obtain ⟨y2, ey2⟩ : ∃ y : Int32, y = x4 + 1 := ⟨_, rfl⟩
      have h := h y2 ey2
      refine lv_iinc (v := y2) (lv' := [(4, .int y2), (0, .ref (eA E o0)), (1, .int p1), (2, .ref (eA E o2)), (3, .int p3)]) hx hb dX9_copy_31 hl (k := 4) rfl (by rw [ey2]; first | rfl | decide) (by decide) rfl (fun ls hl => ?_)
      refine lv_goto (tgt := 3) hx hb dX9_copy_34 (by decide) ?_
      exact h _ _ hw _ (lv_sub hl [1, 2, 3, 4, 0] rfl)
  refine lv_iconst (v := 0) hx hb dX9_copy_0 (by decide) ?_
  refine lv_istore (lv' := [(4, .int 0), (0, .ref (eA E o0)), (1, .int p1), (2, .ref (eA E o2)), (3, .int p3)]) hx hb dX9_copy_1 hl (by decide) rfl (fun ls hl => ?_)
  exact h _ _ hw _ (lv_sub hl [1, 2, 3, 4, 0] rfl)
theorem hy_X9_keep : yX9_keep.cls ≠ "java/lang/invoke/MethodHandle" ∧ yX9_keep.cls ≠ "java/lang/invoke/VarHandle" ∧ (parseMethodDescriptor yX9_keep.desc).map (fun d => d.parameters.length) = some 0 := by decide +kernel
def wp_X9_keep (w : Wd) (Post : Wd → Prop) : Prop :=
  ∀ J11 : Int32 → Wd → Prop, (∀ (x1 : Int32) (w : Wd), ((10 ≤ x1 → (∀ y2 : Int32, y2 = (gI w 15 15) - 1 → (wp_X9_copy 18 140 19 1400 (sI w 15 15 y2) 0 (gI (sI w 15 15 y2) 15 15) (fun w2 => ∀ y3 : Int32, y3 = (gI w2 15 15) + 1 → (Post (sI w2 15 15 y3)))))) ∧ (¬ 10 ≤ x1 → (wp_X9_copy 19 1400 19 1400 w x1 (x1 - 1) (fun w3 => ∀ y4 : Int32, y4 = x1 + 1 → (J11 y4 w3))))) → J11 x1 w) →
  ((gI w 15 15) = 10 → (J11 1 w)) ∧ (¬ (gI w 15 15) = 10 → (wp_X9_copy 18 140 19 1400 w 0 (gI w 15 15) (fun w1 => ∀ y1 : Int32, y1 = (gI w1 15 15) + 1 → (Post (sI w1 15 15 y1)))))
set_option maxHeartbeats 4000000 in
set_option maxRecDepth 100000 in
theorem mt_X9_keep (l : Launch) {E : En} (hI : Inj E) (hF : ∀ o, (15 ≤ o ∧ o < 25) → o ∈ eL E) (w : Wd) {Post : Wd → Prop} (h : wp_X9_keep w Post) : MV l E yX9_keep cX9_keep 2 none 1 24 [.ref (eA E 15)] w Post := by
  refine MG.intro hI (by decide +kernel) (Nat.le_of_ble_eq_true rfl) ?_
  intro p e s m args below meth c Q C hr hlk hQ hw ls hl
  have hx := C.1
  have hb := C.2.1
  have hl : lv_has ls 2 [(0, .ref (eA E 15))] := hl
  unfold wp_X9_keep at h
  have h := h (fun x1 w => Jp E p l e (Rm 1 24) s m args below meth c Q 2 11 [(0, .ref (eA E 15)), (1, .int x1)] w)
  have h := h ?_
  rotate_left
  · intro x1 w h H locs hw ls hl
    refine lv_iload_n hx hb dX9_keep_11 rfl (lv_at hl 1 rfl) ?_
    refine lv_bipush (v := 10) hx hb dX9_keep_12 (by decide) ?_
    refine lv_icmp_ge (tgt := 38) hx hb dX9_keep_14 (by decide) (fun c2 => ?_) (fun c2 => ?_)
    · have h := h.1 c2
      refine lv_aload_n hx hb dX9_keep_38 rfl (lv_at hl 0 rfl) ?_
      refine lv_dup hx hb dX9_keep_39 rfl ?_
      refine g9_15 C hw (hF 15 (by decide)) K_f_X9_115 dX9_keep_40 ?_
      refine lv_iconst (v := 1) hx hb dX9_keep_43 (by decide) ?_
      refine lv_isub hx hb dX9_keep_44 ?_
      refine lv_topi (fun y2 ey2 => ?_)
      have h := h y2 ey2
      refine p9_15 C hw (hF 15 (by decide)) K_f_X9_115 dX9_keep_45 (fun H locs hw => ?_)
      refine lv_aload_n hx hb dX9_keep_48 rfl (lv_at hl 0 rfl) ?_
      refine g9_13 C hw (hF 15 (by decide)) K_f_X9_17 dX9_keep_49 ?_
      refine lv_iconst (v := 0) hx hb dX9_keep_52 (by decide) ?_
      refine lv_aload_n hx hb dX9_keep_53 rfl (lv_at hl 0 rfl) ?_
      refine g9_14 C hw (hF 15 (by decide)) K_f_X9_20 dX9_keep_54 ?_
      refine lv_aload_n hx hb dX9_keep_57 rfl (lv_at hl 0 rfl) ?_
      refine g9_15 C hw (hF 15 (by decide)) K_f_X9_115 dX9_keep_58 ?_
      refine done_v hw (my_runS (As := [.ref (eA E 18), .int 0, .ref (eA E 19), .int (gI (sI w 15 15 y2) 15 15)]) (rest := []) C hw (mt_X9_copy l C.2.2.2.2.2.2.2 hF 18 140 (hF 18 (by decide)) (fun _ => rfl) 19 1400 (hF 19 (by decide)) (fun _ => rfl) _ _ _ h) K_m_X9_166 K_s_X9_copy K_n_X9 K_c_X9_copy hy_X9_copy ⟨Nat.le_of_ble_eq_true rfl, Nat.le_of_ble_eq_true rfl⟩ hl.1 rfl (Nat.le_of_ble_eq_true rfl) dX9_keep_61 ⟨Nat.zero_le _, Nat.zero_le _⟩) (fun w2 H locs h hw => ?_)
      refine lv_aload_n hx hb dX9_keep_64 rfl (lv_at hl 0 rfl) ?_
      refine lv_dup hx hb dX9_keep_65 rfl ?_
      refine g9_15 C hw (hF 15 (by decide)) K_f_X9_115 dX9_keep_66 ?_
      refine lv_iconst (v := 1) hx hb dX9_keep_69 (by decide) ?_
      refine lv_iadd hx hb dX9_keep_70 ?_
      refine lv_topi (fun y3 ey3 => ?_)
      have h := h y3 ey3
      refine p9_15 C hw (hF 15 (by decide)) K_f_X9_115 dX9_keep_71 (fun H locs hw => ?_)
      rw [hQ]
      exact ret_v C hr hlk hw h dX9_keep_74
    · have h := h.2 c2
      refine lv_aload_n hx hb dX9_keep_17 rfl (lv_at hl 0 rfl) ?_
      refine g9_14 C hw (hF 15 (by decide)) K_f_X9_20 dX9_keep_18 ?_
      refine lv_iload_n hx hb dX9_keep_21 rfl (lv_at hl 1 rfl) ?_
      refine lv_aload_n hx hb dX9_keep_22 rfl (lv_at hl 0 rfl) ?_
      refine g9_14 C hw (hF 15 (by decide)) K_f_X9_20 dX9_keep_23 ?_
      refine lv_iload_n hx hb dX9_keep_26 rfl (lv_at hl 1 rfl) ?_
      refine lv_iconst (v := 1) hx hb dX9_keep_27 (by decide) ?_
      refine lv_isub hx hb dX9_keep_28 ?_
      refine done_v hw (my_runS (As := [.ref (eA E 19), .int x1, .ref (eA E 19), .int (x1 - 1)]) (rest := []) C hw (mt_X9_copy l C.2.2.2.2.2.2.2 hF 19 1400 (hF 19 (by decide)) (fun _ => rfl) 19 1400 (hF 19 (by decide)) (fun _ => rfl) _ _ _ h) K_m_X9_166 K_s_X9_copy K_n_X9 K_c_X9_copy hy_X9_copy ⟨Nat.le_of_ble_eq_true rfl, Nat.le_of_ble_eq_true rfl⟩ hl.1 rfl (Nat.le_of_ble_eq_true rfl) dX9_keep_29 ⟨Nat.zero_le _, Nat.zero_le _⟩) (fun w3 H locs h hw => ?_)
      obtain ⟨y4, ey4⟩ : ∃ y : Int32, y = x1 + 1 := ⟨_, rfl⟩
      have h := h y4 ey4
      refine lv_iinc (v := y4) (lv' := [(1, .int y4), (0, .ref (eA E 15))]) hx hb dX9_keep_32 hl (k := 1) rfl (by rw [ey4]; first | rfl | decide) (by decide) rfl (fun ls hl => ?_)
      refine lv_goto (tgt := 11) hx hb dX9_keep_35 (by decide) ?_
      exact h _ _ hw _ (lv_sub hl [1, 0] rfl)
  refine lv_aload_n hx hb dX9_keep_0 rfl (lv_at hl 0 rfl) ?_
  refine g9_15 C hw (hF 15 (by decide)) K_f_X9_115 dX9_keep_1 ?_
  refine lv_bipush (v := 10) hx hb dX9_keep_4 (by decide) ?_
  refine lv_icmp_ne (tgt := 48) hx hb dX9_keep_6 (by decide) (fun c1 => ?_) (fun c1 => ?_)
  · have h := h.2 c1
    refine lv_aload_n hx hb dX9_keep_48 rfl (lv_at hl 0 rfl) ?_
    refine g9_13 C hw (hF 15 (by decide)) K_f_X9_17 dX9_keep_49 ?_
    refine lv_iconst (v := 0) hx hb dX9_keep_52 (by decide) ?_
    refine lv_aload_n hx hb dX9_keep_53 rfl (lv_at hl 0 rfl) ?_
    refine g9_14 C hw (hF 15 (by decide)) K_f_X9_20 dX9_keep_54 ?_
    refine lv_aload_n hx hb dX9_keep_57 rfl (lv_at hl 0 rfl) ?_
    refine g9_15 C hw (hF 15 (by decide)) K_f_X9_115 dX9_keep_58 ?_
    refine done_v hw (my_runS (As := [.ref (eA E 18), .int 0, .ref (eA E 19), .int (gI w 15 15)]) (rest := []) C hw (mt_X9_copy l C.2.2.2.2.2.2.2 hF 18 140 (hF 18 (by decide)) (fun _ => rfl) 19 1400 (hF 19 (by decide)) (fun _ => rfl) _ _ _ h) K_m_X9_166 K_s_X9_copy K_n_X9 K_c_X9_copy hy_X9_copy ⟨Nat.le_of_ble_eq_true rfl, Nat.le_of_ble_eq_true rfl⟩ hl.1 rfl (Nat.le_of_ble_eq_true rfl) dX9_keep_61 ⟨Nat.zero_le _, Nat.zero_le _⟩) (fun w1 H locs h hw => ?_)
    refine lv_aload_n hx hb dX9_keep_64 rfl (lv_at hl 0 rfl) ?_
    refine lv_dup hx hb dX9_keep_65 rfl ?_
    refine g9_15 C hw (hF 15 (by decide)) K_f_X9_115 dX9_keep_66 ?_
    refine lv_iconst (v := 1) hx hb dX9_keep_69 (by decide) ?_
    refine lv_iadd hx hb dX9_keep_70 ?_
    refine lv_topi (fun y1 ey1 => ?_)
    have h := h y1 ey1
    refine p9_15 C hw (hF 15 (by decide)) K_f_X9_115 dX9_keep_71 (fun H locs hw => ?_)
    rw [hQ]
    exact ret_v C hr hlk hw h dX9_keep_74
  · have h := h.1 c1
    refine lv_iconst (v := 1) hx hb dX9_keep_9 (by decide) ?_
    refine lv_istore_n (lv' := [(1, .int 1), (0, .ref (eA E 15))]) hx hb dX9_keep_10 rfl hl (by decide) rfl (fun ls hl => ?_)
    exact h _ _ hw _ (lv_sub hl [1, 0] rfl)
theorem hy_X9_ladders : yX9_ladders.cls ≠ "java/lang/invoke/MethodHandle" ∧ yX9_ladders.cls ≠ "java/lang/invoke/VarHandle" ∧ (parseMethodDescriptor yX9_ladders.desc).map (fun d => d.parameters.length) = some 0 := by decide +kernel
def wp_X9_ladders (w : Wd) (Post : Int32 → Wd → Prop) : Prop :=
  Post (gA w 18 0) w
set_option maxHeartbeats 4000000 in
set_option maxRecDepth 100000 in
theorem mt_X9_ladders (l : Launch) {E : En} (hI : Inj E) (hF : ∀ o, (15 ≤ o ∧ o < 25) → o ∈ eL E) (w : Wd) {Post : Int32 → Wd → Prop} (h : wp_X9_ladders w Post) : MI l E yX9_ladders cX9_ladders 1 (some .int) 0 0 [.ref (eA E 15)] w Post := by
  refine MG.intro hI (by decide +kernel) (Nat.le_of_ble_eq_true rfl) ?_
  intro p e s m args below meth c Q C hr hlk hQ hw ls hl
  have hx := C.1
  have hb := C.2.1
  have hl : lv_has ls 1 [(0, .ref (eA E 15))] := hl
  unfold wp_X9_ladders at h
  refine lv_aload_n hx hb dX9_ladders_0 rfl (lv_at hl 0 rfl) ?_
  refine g9_13 C hw (hF 15 (by decide)) K_f_X9_17 dX9_ladders_1 ?_
  refine lv_iconst (v := 0) hx hb dX9_ladders_4 (by decide) ?_
  refine r_iald C hw 18 140 (hF 18 (by decide)) rfl (vp_lit (by decide)) dX9_ladders_5 ?_
  rw [hQ]
  exact ret_i C hr hlk hw h dX9_ladders_6
theorem hy_X9_isLadder : yX9_isLadder.cls ≠ "java/lang/invoke/MethodHandle" ∧ yX9_isLadder.cls ≠ "java/lang/invoke/VarHandle" ∧ (parseMethodDescriptor yX9_isLadder.desc).map (fun d => d.parameters.length) = some 1 := by decide +kernel
def wp_X9_isLadder (w : Wd) (p1 : Int32) (Post : Int32 → Wd → Prop) : Prop :=
  wp_X9_ladders w (fun r1 w1 => wp_X9_within w1 p1 0 (r1 - 1) (fun r2 w2 => (r2 = 0 ∨ r2 = 1) ∧ Post r2 w2))
set_option maxHeartbeats 4000000 in
set_option maxRecDepth 100000 in
theorem mt_X9_isLadder (l : Launch) {E : En} (hI : Inj E) (hF : ∀ o, (15 ≤ o ∧ o < 25) → o ∈ eL E) (w : Wd) (p1 : Int32) {Post : Int32 → Wd → Prop} (h : wp_X9_isLadder w p1 Post) : MI l E yX9_isLadder cX9_isLadder 2 (some .boolean) 1 22 [.ref (eA E 15), .int p1] w Post := by
  refine MG.intro hI (by decide +kernel) (Nat.le_of_ble_eq_true rfl) ?_
  intro p e s m args below meth c Q C hr hlk hQ hw ls hl
  have hx := C.1
  have hb := C.2.1
  have hl : lv_has ls 2 [(0, .ref (eA E 15)), (1, .int p1)] := hl
  unfold wp_X9_isLadder at h
  refine lv_iload_n hx hb dX9_isLadder_0 rfl (lv_at hl 1 rfl) ?_
  refine lv_iconst (v := 0) hx hb dX9_isLadder_1 (by decide) ?_
  refine lv_aload_n hx hb dX9_isLadder_2 rfl (lv_at hl 0 rfl) ?_
  refine done_i hw (my_runV (As := []) (rest := [.int 0, .int p1]) C hw 15 9 (hF 15 (by decide)) rfl rfl (mt_X9_ladders l C.2.2.2.2.2.2.2 hF _ h) K_m_X9_163 K_i_X9_ladders K_v_X9_ladders K_n_X9 K_c_X9_ladders hy_X9_ladders ⟨Nat.le_of_ble_eq_true rfl, Nat.le_of_ble_eq_true rfl⟩ hl.1 rfl (Nat.le_of_ble_eq_true rfl) dX9_isLadder_3 ⟨Nat.zero_le _, Nat.zero_le _⟩) (fun r1 w1 H locs h hw => ?_)
  refine lv_iconst (v := 1) hx hb dX9_isLadder_6 (by decide) ?_
  refine lv_isub hx hb dX9_isLadder_7 ?_
  refine done_i hw (my_runS (As := [.int p1, .int 0, .int (r1 - 1)]) (rest := []) C hw (mt_X9_within l C.2.2.2.2.2.2.2 hF _ _ _ _ h) K_m_X9_72 K_s_X9_within K_n_X9 K_c_X9_within hy_X9_within ⟨Nat.le_of_ble_eq_true rfl, Nat.le_of_ble_eq_true rfl⟩ hl.1 rfl (Nat.le_of_ble_eq_true rfl) dX9_isLadder_8 ⟨Nat.zero_le _, Nat.zero_le _⟩) (fun r2 w2 H locs h hw => ?_)
  rw [hQ]
  exact ret_z C hr hlk hw h.2 h.1 dX9_isLadder_11
theorem hy_X9_at : yX9_at.cls ≠ "java/lang/invoke/MethodHandle" ∧ yX9_at.cls ≠ "java/lang/invoke/VarHandle" ∧ (parseMethodDescriptor yX9_at.desc).map (fun d => d.parameters.length) = some 1 := by decide +kernel
def wp_X9_at (w : Wd) (p0 : Int32) (Post : Int32 → Wd → Prop) : Prop :=
  Post (1 + (7 * p0)) w
set_option maxHeartbeats 4000000 in
set_option maxRecDepth 100000 in
theorem mt_X9_at (l : Launch) {E : En} (hI : Inj E) (hF : ∀ o, (15 ≤ o ∧ o < 25) → o ∈ eL E) (w : Wd) (p0 : Int32) {Post : Int32 → Wd → Prop} (h : wp_X9_at w p0 Post) : MI l E yX9_at cX9_at 1 (some .int) 0 0 [.int p0] w Post := by
  refine MG.intro hI (by decide +kernel) (Nat.le_of_ble_eq_true rfl) ?_
  intro p e s m args below meth c Q C hr hlk hQ hw ls hl
  have hx := C.1
  have hb := C.2.1
  have hl : lv_has ls 1 [(0, .int p0)] := hl
  unfold wp_X9_at at h
  refine lv_iconst (v := 1) hx hb dX9_at_0 (by decide) ?_
  refine lv_bipush (v := 7) hx hb dX9_at_1 (by decide) ?_
  refine lv_iload_n hx hb dX9_at_3 rfl (lv_at hl 0 rfl) ?_
  refine lv_imul hx hb dX9_at_4 ?_
  refine lv_iadd hx hb dX9_at_5 ?_
  rw [hQ]
  exact ret_i C hr hlk hw h dX9_at_6
theorem hy_X9_of : yX9_of.cls ≠ "java/lang/invoke/MethodHandle" ∧ yX9_of.cls ≠ "java/lang/invoke/VarHandle" ∧ (parseMethodDescriptor yX9_of.desc).map (fun d => d.parameters.length) = some 2 := by decide +kernel
def wp_X9_of (w : Wd) (p1 : Int32) (p2 : Int32) (Post : Int32 → Wd → Prop) : Prop :=
  wp_X9_at w p1 (fun r1 w1 => vp_in (r1 + p2) 140 ∧ (Post (gA w1 18 ((r1 + p2).toNatClampNeg)) w1))
set_option maxHeartbeats 4000000 in
set_option maxRecDepth 100000 in
theorem mt_X9_of (l : Launch) {E : En} (hI : Inj E) (hF : ∀ o, (15 ≤ o ∧ o < 25) → o ∈ eL E) (w : Wd) (p1 : Int32) (p2 : Int32) {Post : Int32 → Wd → Prop} (h : wp_X9_of w p1 p2 Post) : MI l E yX9_of cX9_of 3 (some .int) 1 20 [.ref (eA E 15), .int p1, .int p2] w Post := by
  refine MG.intro hI (by decide +kernel) (Nat.le_of_ble_eq_true rfl) ?_
  intro p e s m args below meth c Q C hr hlk hQ hw ls hl
  have hx := C.1
  have hb := C.2.1
  have hl : lv_has ls 3 [(0, .ref (eA E 15)), (1, .int p1), (2, .int p2)] := hl
  unfold wp_X9_of at h
  refine lv_aload_n hx hb dX9_of_0 rfl (lv_at hl 0 rfl) ?_
  refine g9_13 C hw (hF 15 (by decide)) K_f_X9_17 dX9_of_1 ?_
  refine lv_iload_n hx hb dX9_of_4 rfl (lv_at hl 1 rfl) ?_
  refine done_i hw (my_runS (As := [.int p1]) (rest := [.ref (eA E 18)]) C hw (mt_X9_at l C.2.2.2.2.2.2.2 hF _ _ h) K_m_X9_170 K_s_X9_at K_n_X9 K_c_X9_at hy_X9_at ⟨Nat.le_of_ble_eq_true rfl, Nat.le_of_ble_eq_true rfl⟩ hl.1 rfl (Nat.le_of_ble_eq_true rfl) dX9_of_5 ⟨Nat.zero_le _, Nat.zero_le _⟩) (fun r1 w1 H locs h hw => ?_)
  refine lv_iload_n hx hb dX9_of_8 rfl (lv_at hl 2 rfl) ?_
  refine lv_iadd hx hb dX9_of_9 ?_
  obtain ⟨hi1, h⟩ := h
  refine r_iald C hw 18 140 (hF 18 (by decide)) rfl hi1 dX9_of_10 ?_
  rw [hQ]
  exact ret_i C hr hlk hw h dX9_of_11
theorem hy_X9_behind : yX9_behind.cls ≠ "java/lang/invoke/MethodHandle" ∧ yX9_behind.cls ≠ "java/lang/invoke/VarHandle" ∧ (parseMethodDescriptor yX9_behind.desc).map (fun d => d.parameters.length) = some 4 := by decide +kernel
def wp_X9_behind (w : Wd) (p1 : Int32) (p2 : Int32) (p3 : Int32) (p4 : Int32) (Post : Int32 → Wd → Prop) : Prop :=
  ∀ y1 : Int32, y1 = p3 - p4 → ((0 ≤ y1 → (∀ y2 : Int32, y2 = p2 ^^^ ((1 : Int32) <<< (p3 &&& 31)) → ((y1 = 0 → (Post y2 w)) ∧ (¬ y1 = 0 → (wp_X9_of w p1 3 (fun r1 w1 => wp_X9_has w1 r1 y1 (fun r2 w2 => (r2 = 0 → (wp_X9_has w2 p2 y1 (fun r3 w3 => (r3 = 0 → (Post (y2 ||| ((1 : Int32) <<< (y1 &&& 31))) w3)) ∧ (¬ r3 = 0 → (Post ((-1)) w3))))) ∧ (¬ r2 = 0 → (Post ((-1)) w2))))))))) ∧ (¬ 0 ≤ y1 → (Post ((-1)) w)))
set_option maxHeartbeats 4000000 in
set_option maxRecDepth 100000 in
theorem mt_X9_behind (l : Launch) {E : En} (hI : Inj E) (hF : ∀ o, (15 ≤ o ∧ o < 25) → o ∈ eL E) (w : Wd) (p1 : Int32) (p2 : Int32) (p3 : Int32) (p4 : Int32) {Post : Int32 → Wd → Prop} (h : wp_X9_behind w p1 p2 p3 p4 Post) : MI l E yX9_behind cX9_behind 7 (some .int) 2 42 [.ref (eA E 15), .int p1, .int p2, .int p3, .int p4] w Post := by
  refine MG.intro hI (by decide +kernel) (Nat.le_of_ble_eq_true rfl) ?_
  intro p e s m args below meth c Q C hr hlk hQ hw ls hl
  have hx := C.1
  have hb := C.2.1
  have hl : lv_has ls 7 [(0, .ref (eA E 15)), (1, .int p1), (2, .int p2), (3, .int p3), (4, .int p4)] := hl
  unfold wp_X9_behind at h
  refine lv_iload_n hx hb dX9_behind_0 rfl (lv_at hl 3 rfl) ?_
  refine lv_iload hx hb dX9_behind_1 (lv_at hl 4 rfl) ?_
  refine lv_isub hx hb dX9_behind_3 ?_
  refine lv_topi (fun y1 ey1 => ?_)
  have h := h y1 ey1
  refine lv_istore (lv' := [(5, .int y1), (0, .ref (eA E 15)), (1, .int p1), (2, .int p2), (3, .int p3), (4, .int p4)]) hx hb dX9_behind_4 hl (by decide) rfl (fun ls hl => ?_)
  refine lv_iload hx hb dX9_behind_6 (lv_at hl 0 rfl) ?_
  refine lv_if_ge (tgt := 13) hx hb dX9_behind_8 (by decide) (fun c1 => ?_) (fun c1 => ?_)
  · have h := h.1 c1
    refine lv_iload_n hx hb dX9_behind_13 rfl (lv_at hl 3 rfl) ?_
    refine lv_iconst (v := 1) hx hb dX9_behind_14 (by decide) ?_
    refine lv_iload_n hx hb dX9_behind_15 rfl (lv_at hl 4 rfl) ?_
    refine lv_ishl hx hb dX9_behind_16 ?_
    refine lv_ixor hx hb dX9_behind_17 ?_
    refine lv_topi (fun y2 ey2 => ?_)
    have h := h y2 ey2
    refine lv_istore (lv' := [(6, .int y2), (5, .int y1), (0, .ref (eA E 15)), (1, .int p1), (2, .int p2), (3, .int p3), (4, .int p4)]) hx hb dX9_behind_18 hl (by decide) rfl (fun ls hl => ?_)
    refine lv_iload hx hb dX9_behind_20 (lv_at hl 1 rfl) ?_
    refine lv_if_ne (tgt := 28) hx hb dX9_behind_22 (by decide) (fun c2 => ?_) (fun c2 => ?_)
    · have h := h.2 c2
      refine lv_aload_n hx hb dX9_behind_28 rfl (lv_at hl 2 rfl) ?_
      refine lv_iload_n hx hb dX9_behind_29 rfl (lv_at hl 3 rfl) ?_
      refine lv_iconst (v := 3) hx hb dX9_behind_30 (by decide) ?_
      refine done_i hw (my_runV (As := [.int p1, .int 3]) (rest := []) C hw 15 9 (hF 15 (by decide)) rfl rfl (mt_X9_of l C.2.2.2.2.2.2.2 hF _ _ _ h) K_m_X9_173 K_i_X9_of K_v_X9_of K_n_X9 K_c_X9_of hy_X9_of ⟨Nat.le_of_ble_eq_true rfl, Nat.le_of_ble_eq_true rfl⟩ hl.1 rfl (Nat.le_of_ble_eq_true rfl) dX9_behind_31 ⟨Nat.zero_le _, Nat.zero_le _⟩) (fun r1 w1 H locs h hw => ?_)
      refine lv_iload hx hb dX9_behind_34 (lv_at hl 1 rfl) ?_
      refine done_i hw (my_runS (As := [.int r1, .int y1]) (rest := []) C hw (mt_X9_has l C.2.2.2.2.2.2.2 hF _ _ _ h) K_m_X9_118 K_s_X9_has K_n_X9 K_c_X9_has hy_X9_has ⟨Nat.le_of_ble_eq_true rfl, Nat.le_of_ble_eq_true rfl⟩ hl.1 rfl (Nat.le_of_ble_eq_true rfl) dX9_behind_36 ⟨Nat.zero_le _, Nat.zero_le _⟩) (fun r2 w2 H locs h hw => ?_)
      refine lv_if_ne (tgt := 51) hx hb dX9_behind_39 (by decide) (fun c3 => ?_) (fun c3 => ?_)
      · have h := h.2 c3
        refine lv_iconst (v := (-1)) hx hb dX9_behind_51 (by decide) ?_
        refine lv_goto (tgt := 62) hx hb dX9_behind_52 (by decide) ?_
        rw [hQ]
        exact ret_i C hr hlk hw h dX9_behind_62
      · have h := h.1 c3
        refine lv_iload_n hx hb dX9_behind_42 rfl (lv_at hl 4 rfl) ?_
        refine lv_iload hx hb dX9_behind_43 (lv_at hl 1 rfl) ?_
        refine done_i hw (my_runS (As := [.int p2, .int y1]) (rest := []) C hw (mt_X9_has l C.2.2.2.2.2.2.2 hF _ _ _ h) K_m_X9_118 K_s_X9_has K_n_X9 K_c_X9_has hy_X9_has ⟨Nat.le_of_ble_eq_true rfl, Nat.le_of_ble_eq_true rfl⟩ hl.1 rfl (Nat.le_of_ble_eq_true rfl) dX9_behind_45 ⟨Nat.zero_le _, Nat.zero_le _⟩) (fun r3 w3 H locs h hw => ?_)
        refine lv_if_eq (tgt := 55) hx hb dX9_behind_48 (by decide) (fun c4 => ?_) (fun c4 => ?_)
        · have h := h.1 c4
          refine lv_iload hx hb dX9_behind_55 (lv_at hl 0 rfl) ?_
          refine lv_iconst (v := 1) hx hb dX9_behind_57 (by decide) ?_
          refine lv_iload hx hb dX9_behind_58 (lv_at hl 1 rfl) ?_
          refine lv_ishl hx hb dX9_behind_60 ?_
          refine lv_ior hx hb dX9_behind_61 ?_
          rw [hQ]
          exact ret_i C hr hlk hw h dX9_behind_62
        · have h := h.2 c4
          refine lv_iconst (v := (-1)) hx hb dX9_behind_51 (by decide) ?_
          refine lv_goto (tgt := 62) hx hb dX9_behind_52 (by decide) ?_
          rw [hQ]
          exact ret_i C hr hlk hw h dX9_behind_62
    · have h := h.1 c2
      refine lv_iload hx hb dX9_behind_25 (lv_at hl 0 rfl) ?_
      rw [hQ]
      exact ret_i C hr hlk hw h dX9_behind_27
  · have h := h.2 c1
    refine lv_iconst (v := (-1)) hx hb dX9_behind_11 (by decide) ?_
    rw [hQ]
    exact ret_i C hr hlk hw h dX9_behind_12
theorem hy_X9_laysOne : yX9_laysOne.cls ≠ "java/lang/invoke/MethodHandle" ∧ yX9_laysOne.cls ≠ "java/lang/invoke/VarHandle" ∧ (parseMethodDescriptor yX9_laysOne.desc).map (fun d => d.parameters.length) = some 2 := by decide +kernel
def wp_X9_laysOne (w : Wd) (p1 : Int32) (p2 : Int32) (Post : Wd → Prop) : Prop :=
  ∀ J8 : Int32 → Int32 → Int32 → Wd → Prop, ∀ J134 : Int32 → Int32 → Int32 → Wd → Prop, ∀ J22 : Int32 → Int32 → Int32 → Int32 → Wd → Prop, (∀ (x3 : Int32) (x4 : Int32) (x5 : Int32) (w : Wd), (wp_X9_of w p1 0 (fun r1 w1 => (r1 < x5 → (J134 x3 x4 0 w1)) ∧ (¬ r1 < x5 → (J22 x3 x4 x5 1 w1)))) → J8 x3 x4 x5 w) →
  (∀ (x3 : Int32) (x4 : Int32) (x5 : Int32) (w : Wd), (wp_X9_has w x3 x5 (fun r2 w2 => (r2 = 0 → (vp_in p2 8192 ∧ (vp_in p2 8192 ∧ (Post (sA (sA w2 22 p2.toNatClampNeg x5) 23 p2.toNatClampNeg x4))))) ∧ (¬ r2 = 0 → (∀ y1 : Int32, y1 = x5 + 1 → (J134 x3 x4 y1 w2))))) → J134 x3 x4 x5 w) →
  (∀ (x3 : Int32) (x4 : Int32) (x5 : Int32) (x6 : Int32) (w : Wd), ((12 < x6 → (∀ y2 : Int32, y2 = x5 + 1 → (J8 x3 x4 y2 w))) ∧ (¬ 12 < x6 → (wp_X9_has w p2 x5 (fun r3 w3 => (r3 = 0 → (∀ y3 : Int32, y3 = x5 + 1 → (J8 x3 x4 y3 w3))) ∧ (¬ r3 = 0 → (wp_X9_of w3 p1 4 (fun r4 w4 => wp_X9_has w4 r4 x6 (fun r5 w5 => (r5 = 0 → (∀ y4 : Int32, y4 = x6 + 1 → (J22 x3 x4 x5 y4 w5))) ∧ (¬ r5 = 0 → (wp_X9_behind w5 p1 p2 x5 x6 (fun r6 w6 => (r6 = ((-1)) → (∀ y9 : Int32, y9 = x6 + 1 → (J22 x3 x4 x5 y9 w6))) ∧ (¬ r6 = ((-1)) → (vp_in r6 8192 ∧ (∀ y5 : Int32, y5 = x3 ||| ((1 : Int32) <<< ((gA w6 22 r6.toNatClampNeg) &&& 31)) → (vp_in r6 8192 ∧ ((((gA w6 23 r6.toNatClampNeg) + 1) ≤ x4 → (∀ y6 : Int32, y6 = x6 + 1 → (J22 y5 x4 x5 y6 w6))) ∧ (¬ ((gA w6 23 r6.toNatClampNeg) + 1) ≤ x4 → (vp_in r6 8192 ∧ (∀ y7 : Int32, y7 = (gA w6 23 r6.toNatClampNeg) + 1 → (∀ y8 : Int32, y8 = x6 + 1 → (J22 y5 y7 x5 y8 w6))))))))))))))))))))) → J22 x3 x4 x5 x6 w) →
  J8 0 0 1 w
set_option maxHeartbeats 4000000 in
set_option maxRecDepth 100000 in
theorem mt_X9_laysOne (l : Launch) {E : En} (hI : Inj E) (hF : ∀ o, (15 ≤ o ∧ o < 25) → o ∈ eL E) (w : Wd) (p1 : Int32) (p2 : Int32) {Post : Wd → Prop} (h : wp_X9_laysOne w p1 p2 Post) : MV l E yX9_laysOne cX9_laysOne 8 none 3 68 [.ref (eA E 15), .int p1, .int p2] w Post := by
  refine MG.intro hI (by decide +kernel) (Nat.le_of_ble_eq_true rfl) ?_
  intro p e s m args below meth c Q C hr hlk hQ hw ls hl
  have hx := C.1
  have hb := C.2.1
  have hl : lv_has ls 8 [(0, .ref (eA E 15)), (1, .int p1), (2, .int p2)] := hl
  unfold wp_X9_laysOne at h
  have h := h (fun x3 x4 x5 w => Jp E p l e (Rm 3 68) s m args below meth c Q 8 8 [(0, .ref (eA E 15)), (1, .int p1), (2, .int p2), (3, .int x3), (4, .int x4), (5, .int x5)] w)
  have h := h (fun x3 x4 x5 w => Jp E p l e (Rm 3 68) s m args below meth c Q 8 134 [(0, .ref (eA E 15)), (2, .int p2), (3, .int x3), (4, .int x4), (5, .int x5)] w)
  have h := h (fun x3 x4 x5 x6 w => Jp E p l e (Rm 3 68) s m args below meth c Q 8 22 [(0, .ref (eA E 15)), (1, .int p1), (2, .int p2), (3, .int x3), (4, .int x4), (5, .int x5), (6, .int x6)] w)
  have h := h ?_
  rotate_left
  · intro x3 x4 x5 w h H locs hw ls hl
    refine lv_iload hx hb dX9_laysOne_8 (lv_at hl 5 rfl) ?_
    refine lv_aload_n hx hb dX9_laysOne_10 rfl (lv_at hl 0 rfl) ?_
    refine lv_iload_n hx hb dX9_laysOne_11 rfl (lv_at hl 1 rfl) ?_
    refine lv_iconst (v := 0) hx hb dX9_laysOne_12 (by decide) ?_
    refine done_i hw (my_runV (As := [.int p1, .int 0]) (rest := [.int x5]) C hw 15 9 (hF 15 (by decide)) rfl rfl (mt_X9_of l C.2.2.2.2.2.2.2 hF _ _ _ h) K_m_X9_173 K_i_X9_of K_v_X9_of K_n_X9 K_c_X9_of hy_X9_of ⟨Nat.le_of_ble_eq_true rfl, Nat.le_of_ble_eq_true rfl⟩ hl.1 rfl (Nat.le_of_ble_eq_true rfl) dX9_laysOne_13 ⟨Nat.zero_le _, Nat.zero_le _⟩) (fun r1 w1 H locs h hw => ?_)
    refine lv_icmp_gt (tgt := 131) hx hb dX9_laysOne_16 (by decide) (fun c1 => ?_) (fun c1 => ?_)
    · have h := h.1 c1
      refine lv_iconst (v := 0) hx hb dX9_laysOne_131 (by decide) ?_
      refine lv_istore (lv' := [(5, .int 0), (0, .ref (eA E 15)), (1, .int p1), (2, .int p2), (3, .int x3), (4, .int x4)]) hx hb dX9_laysOne_132 hl (by decide) rfl (fun ls hl => ?_)
      exact h _ _ hw _ (lv_sub hl [1, 3, 4, 5, 0] rfl)
    · have h := h.2 c1
      refine lv_iconst (v := 1) hx hb dX9_laysOne_19 (by decide) ?_
      refine lv_istore (lv' := [(6, .int 1), (0, .ref (eA E 15)), (1, .int p1), (2, .int p2), (3, .int x3), (4, .int x4), (5, .int x5)]) hx hb dX9_laysOne_20 hl (by decide) rfl (fun ls hl => ?_)
      exact h _ _ hw _ (lv_sub hl [1, 2, 3, 4, 5, 6, 0] rfl)
  have h := h ?_
  rotate_left
  · intro x3 x4 x5 w h H locs hw ls hl
    refine lv_iload_n hx hb dX9_laysOne_134 rfl (lv_at hl 2 rfl) ?_
    refine lv_iload hx hb dX9_laysOne_135 (lv_at hl 4 rfl) ?_
    refine done_i hw (my_runS (As := [.int x3, .int x5]) (rest := []) C hw (mt_X9_has l C.2.2.2.2.2.2.2 hF _ _ _ h) K_m_X9_118 K_s_X9_has K_n_X9 K_c_X9_has hy_X9_has ⟨Nat.le_of_ble_eq_true rfl, Nat.le_of_ble_eq_true rfl⟩ hl.1 rfl (Nat.le_of_ble_eq_true rfl) dX9_laysOne_137 ⟨Nat.zero_le _, Nat.zero_le _⟩) (fun r2 w2 H locs h hw => ?_)
    refine lv_if_eq (tgt := 149) hx hb dX9_laysOne_140 (by decide) (fun c2 => ?_) (fun c2 => ?_)
    · have h := h.1 c2
      refine lv_aload_n hx hb dX9_laysOne_149 rfl (lv_at hl 0 rfl) ?_
      refine g9_18 C hw (hF 15 (by decide)) K_f_X9_30 dX9_laysOne_150 ?_
      refine lv_iload_n hx hb dX9_laysOne_153 rfl (lv_at hl 1 rfl) ?_
      refine lv_iload hx hb dX9_laysOne_154 (lv_at hl 4 rfl) ?_
      obtain ⟨hi1, h⟩ := h
      refine r_iast C hw 22 8192 (hF 22 (by decide)) (fun _ => rfl) hi1 dX9_laysOne_156 (fun H locs hw => ?_)
      refine lv_aload_n hx hb dX9_laysOne_157 rfl (lv_at hl 0 rfl) ?_
      refine g9_19 C hw (hF 15 (by decide)) K_f_X9_33 dX9_laysOne_158 ?_
      refine lv_iload_n hx hb dX9_laysOne_161 rfl (lv_at hl 1 rfl) ?_
      refine lv_iload hx hb dX9_laysOne_162 (lv_at hl 3 rfl) ?_
      obtain ⟨hi2, h⟩ := h
      refine r_iast C hw 23 8192 (hF 23 (by decide)) (fun _ => rfl) hi2 dX9_laysOne_164 (fun H locs hw => ?_)
      rw [hQ]
      exact ret_v C hr hlk hw h dX9_laysOne_165
    · have h := h.2 c2
      obtain ⟨y1, ey1⟩ : ∃ y : Int32, y = x5 + 1 := ⟨_, rfl⟩
      have h := h y1 ey1
      refine lv_iinc (v := y1) (lv' := [(5, .int y1), (0, .ref (eA E 15)), (2, .int p2), (3, .int x3), (4, .int x4)]) hx hb dX9_laysOne_143 hl (k := 4) rfl (by rw [ey1]; first | rfl | decide) (by decide) rfl (fun ls hl => ?_)
      refine lv_goto (tgt := 134) hx hb dX9_laysOne_146 (by decide) ?_
      exact h _ _ hw _ (lv_sub hl [1, 2, 3, 4, 0] rfl)
  have h := h ?_
  rotate_left
  · intro x3 x4 x5 x6 w h H locs hw ls hl
    refine lv_iload hx hb dX9_laysOne_22 (lv_at hl 6 rfl) ?_
    refine lv_bipush (v := 12) hx hb dX9_laysOne_24 (by decide) ?_
    refine lv_icmp_gt (tgt := 125) hx hb dX9_laysOne_26 (by decide) (fun c3 => ?_) (fun c3 => ?_)
    · have h := h.1 c3
      obtain ⟨y2, ey2⟩ : ∃ y : Int32, y = x5 + 1 := ⟨_, rfl⟩
      have h := h y2 ey2
      refine lv_iinc (v := y2) (lv' := [(5, .int y2), (0, .ref (eA E 15)), (1, .int p1), (2, .int p2), (3, .int x3), (4, .int x4), (6, .int x6)]) hx hb dX9_laysOne_125 hl (k := 5) rfl (by rw [ey2]; first | rfl | decide) (by decide) rfl (fun ls hl => ?_)
      refine lv_goto (tgt := 8) hx hb dX9_laysOne_128 (by decide) ?_
      exact h _ _ hw _ (lv_sub hl [1, 2, 3, 4, 5, 0] rfl)
    · have h := h.2 c3
      refine lv_iload_n hx hb dX9_laysOne_29 rfl (lv_at hl 2 rfl) ?_
      refine lv_iload hx hb dX9_laysOne_30 (lv_at hl 5 rfl) ?_
      refine done_i hw (my_runS (As := [.int p2, .int x5]) (rest := []) C hw (mt_X9_has l C.2.2.2.2.2.2.2 hF _ _ _ h) K_m_X9_118 K_s_X9_has K_n_X9 K_c_X9_has hy_X9_has ⟨Nat.le_of_ble_eq_true rfl, Nat.le_of_ble_eq_true rfl⟩ hl.1 rfl (Nat.le_of_ble_eq_true rfl) dX9_laysOne_32 ⟨Nat.zero_le _, Nat.zero_le _⟩) (fun r3 w3 H locs h hw => ?_)
      refine lv_if_eq (tgt := 125) hx hb dX9_laysOne_35 (by decide) (fun c4 => ?_) (fun c4 => ?_)
      · have h := h.1 c4
        obtain ⟨y3, ey3⟩ : ∃ y : Int32, y = x5 + 1 := ⟨_, rfl⟩
        have h := h y3 ey3
        refine lv_iinc (v := y3) (lv' := [(5, .int y3), (0, .ref (eA E 15)), (1, .int p1), (2, .int p2), (3, .int x3), (4, .int x4), (6, .int x6)]) hx hb dX9_laysOne_125 hl (k := 5) rfl (by rw [ey3]; first | rfl | decide) (by decide) rfl (fun ls hl => ?_)
        refine lv_goto (tgt := 8) hx hb dX9_laysOne_128 (by decide) ?_
        exact h _ _ hw _ (lv_sub hl [1, 2, 3, 4, 5, 0] rfl)
      · have h := h.2 c4
        refine lv_aload_n hx hb dX9_laysOne_38 rfl (lv_at hl 0 rfl) ?_
        refine lv_iload_n hx hb dX9_laysOne_39 rfl (lv_at hl 1 rfl) ?_
        refine lv_iconst (v := 4) hx hb dX9_laysOne_40 (by decide) ?_
        refine done_i hw (my_runV (As := [.int p1, .int 4]) (rest := []) C hw 15 9 (hF 15 (by decide)) rfl rfl (mt_X9_of l C.2.2.2.2.2.2.2 hF _ _ _ h) K_m_X9_173 K_i_X9_of K_v_X9_of K_n_X9 K_c_X9_of hy_X9_of ⟨Nat.le_of_ble_eq_true rfl, Nat.le_of_ble_eq_true rfl⟩ hl.1 rfl (Nat.le_of_ble_eq_true rfl) dX9_laysOne_41 ⟨Nat.zero_le _, Nat.zero_le _⟩) (fun r4 w4 H locs h hw => ?_)
        refine lv_iload hx hb dX9_laysOne_44 (lv_at hl 6 rfl) ?_
        refine done_i hw (my_runS (As := [.int r4, .int x6]) (rest := []) C hw (mt_X9_has l C.2.2.2.2.2.2.2 hF _ _ _ h) K_m_X9_118 K_s_X9_has K_n_X9 K_c_X9_has hy_X9_has ⟨Nat.le_of_ble_eq_true rfl, Nat.le_of_ble_eq_true rfl⟩ hl.1 rfl (Nat.le_of_ble_eq_true rfl) dX9_laysOne_46 ⟨Nat.zero_le _, Nat.zero_le _⟩) (fun r5 w5 H locs h hw => ?_)
        refine lv_if_eq (tgt := 65) hx hb dX9_laysOne_49 (by decide) (fun c5 => ?_) (fun c5 => ?_)
        · have h := h.1 c5
          refine lv_iconst (v := (-1)) hx hb dX9_laysOne_65 (by decide) ?_
          refine lv_istore (lv' := [(7, .int ((-1))), (0, .ref (eA E 15)), (1, .int p1), (2, .int p2), (3, .int x3), (4, .int x4), (5, .int x5), (6, .int x6)]) hx hb dX9_laysOne_66 hl (by decide) rfl (fun ls hl => ?_)
          refine lv_iload hx hb dX9_laysOne_68 (lv_at hl 0 rfl) ?_
          refine lv_iconst (v := (-1)) hx hb dX9_laysOne_70 (by decide) ?_
          refine lv_icmp_ne (tgt := 77) hx hb dX9_laysOne_71 (by decide) (fun c6 => ?_) (fun c6 => ?_)
          · exact absurd c6 (by decide)
          · refine lv_goto (tgt := 119) hx hb dX9_laysOne_74 (by decide) ?_
            obtain ⟨y4, ey4⟩ : ∃ y : Int32, y = x6 + 1 := ⟨_, rfl⟩
            have h := h y4 ey4
            refine lv_iinc (v := y4) (lv' := [(6, .int y4), (7, .int ((-1))), (0, .ref (eA E 15)), (1, .int p1), (2, .int p2), (3, .int x3), (4, .int x4), (5, .int x5)]) hx hb dX9_laysOne_119 hl (k := 7) rfl (by rw [ey4]; first | rfl | decide) (by decide) rfl (fun ls hl => ?_)
            refine lv_goto (tgt := 22) hx hb dX9_laysOne_122 (by decide) ?_
            exact h _ _ hw _ (lv_sub hl [2, 3, 4, 5, 6, 7, 0] rfl)
        · have h := h.2 c5
          refine lv_aload_n hx hb dX9_laysOne_52 rfl (lv_at hl 0 rfl) ?_
          refine lv_iload_n hx hb dX9_laysOne_53 rfl (lv_at hl 1 rfl) ?_
          refine lv_iload_n hx hb dX9_laysOne_54 rfl (lv_at hl 2 rfl) ?_
          refine lv_iload hx hb dX9_laysOne_55 (lv_at hl 5 rfl) ?_
          refine lv_iload hx hb dX9_laysOne_57 (lv_at hl 6 rfl) ?_
          refine done_i hw (my_runV (As := [.int p1, .int p2, .int x5, .int x6]) (rest := []) C hw 15 9 (hF 15 (by decide)) rfl rfl (mt_X9_behind l C.2.2.2.2.2.2.2 hF _ _ _ _ _ h) K_m_X9_180 K_i_X9_behind K_v_X9_behind K_n_X9 K_c_X9_behind hy_X9_behind ⟨Nat.le_of_ble_eq_true rfl, Nat.le_of_ble_eq_true rfl⟩ hl.1 rfl (Nat.le_of_ble_eq_true rfl) dX9_laysOne_59 ⟨Nat.zero_le _, Nat.zero_le _⟩) (fun r6 w6 H locs h hw => ?_)
          refine lv_goto (tgt := 66) hx hb dX9_laysOne_62 (by decide) ?_
          refine lv_istore (lv' := [(7, .int r6), (0, .ref (eA E 15)), (1, .int p1), (2, .int p2), (3, .int x3), (4, .int x4), (5, .int x5), (6, .int x6)]) hx hb dX9_laysOne_66 hl (by decide) rfl (fun ls hl => ?_)
          refine lv_iload hx hb dX9_laysOne_68 (lv_at hl 0 rfl) ?_
          refine lv_iconst (v := (-1)) hx hb dX9_laysOne_70 (by decide) ?_
          refine lv_icmp_ne (tgt := 77) hx hb dX9_laysOne_71 (by decide) (fun c7 => ?_) (fun c7 => ?_)
          · have h := h.2 c7
            refine lv_iload_n hx hb dX9_laysOne_77 rfl (lv_at hl 4 rfl) ?_
            refine lv_iconst (v := 1) hx hb dX9_laysOne_78 (by decide) ?_
            refine lv_aload_n hx hb dX9_laysOne_79 rfl (lv_at hl 1 rfl) ?_
            refine g9_18 C hw (hF 15 (by decide)) K_f_X9_30 dX9_laysOne_80 ?_
            refine lv_iload hx hb dX9_laysOne_83 (lv_at hl 0 rfl) ?_
            obtain ⟨hi3, h⟩ := h
            refine r_iald C hw 22 8192 (hF 22 (by decide)) rfl hi3 dX9_laysOne_85 ?_
            refine lv_ishl hx hb dX9_laysOne_86 ?_
            refine lv_ior hx hb dX9_laysOne_87 ?_
            refine lv_topi (fun y5 ey5 => ?_)
            have h := h y5 ey5
            refine lv_istore_n (lv' := [(3, .int y5), (7, .int r6), (0, .ref (eA E 15)), (1, .int p1), (2, .int p2), (4, .int x4), (5, .int x5), (6, .int x6)]) hx hb dX9_laysOne_88 rfl hl (by decide) rfl (fun ls hl => ?_)
            refine lv_aload_n hx hb dX9_laysOne_89 rfl (lv_at hl 2 rfl) ?_
            refine g9_19 C hw (hF 15 (by decide)) K_f_X9_33 dX9_laysOne_90 ?_
            refine lv_iload hx hb dX9_laysOne_93 (lv_at hl 1 rfl) ?_
            obtain ⟨hi4, h⟩ := h
            refine r_iald C hw 23 8192 (hF 23 (by decide)) rfl hi4 dX9_laysOne_95 ?_
            refine lv_iconst (v := 1) hx hb dX9_laysOne_96 (by decide) ?_
            refine lv_iadd hx hb dX9_laysOne_97 ?_
            refine lv_iload hx hb dX9_laysOne_98 (lv_at hl 5 rfl) ?_
            refine lv_icmp_le (tgt := 115) hx hb dX9_laysOne_100 (by decide) (fun c8 => ?_) (fun c8 => ?_)
            · have h := h.1 c8
              refine lv_iload hx hb dX9_laysOne_115 (lv_at hl 5 rfl) ?_
              refine lv_istore (lv' := [(4, .int x4), (3, .int y5), (7, .int r6), (0, .ref (eA E 15)), (1, .int p1), (2, .int p2), (5, .int x5), (6, .int x6)]) hx hb dX9_laysOne_117 hl (by decide) rfl (fun ls hl => ?_)
              obtain ⟨y6, ey6⟩ : ∃ y : Int32, y = x6 + 1 := ⟨_, rfl⟩
              have h := h y6 ey6
              refine lv_iinc (v := y6) (lv' := [(6, .int y6), (4, .int x4), (3, .int y5), (7, .int r6), (0, .ref (eA E 15)), (1, .int p1), (2, .int p2), (5, .int x5)]) hx hb dX9_laysOne_119 hl (k := 7) rfl (by rw [ey6]; first | rfl | decide) (by decide) rfl (fun ls hl => ?_)
              refine lv_goto (tgt := 22) hx hb dX9_laysOne_122 (by decide) ?_
              exact h _ _ hw _ (lv_sub hl [4, 5, 6, 2, 1, 7, 0] rfl)
            · have h := h.2 c8
              refine lv_aload_n hx hb dX9_laysOne_103 rfl (lv_at hl 2 rfl) ?_
              refine g9_19 C hw (hF 15 (by decide)) K_f_X9_33 dX9_laysOne_104 ?_
              refine lv_iload hx hb dX9_laysOne_107 (lv_at hl 1 rfl) ?_
              obtain ⟨hi5, h⟩ := h
              refine r_iald C hw 23 8192 (hF 23 (by decide)) rfl hi5 dX9_laysOne_109 ?_
              refine lv_iconst (v := 1) hx hb dX9_laysOne_110 (by decide) ?_
              refine lv_iadd hx hb dX9_laysOne_111 ?_
              refine lv_goto (tgt := 117) hx hb dX9_laysOne_112 (by decide) ?_
              refine lv_topi (fun y7 ey7 => ?_)
              have h := h y7 ey7
              refine lv_istore (lv' := [(4, .int y7), (3, .int y5), (7, .int r6), (0, .ref (eA E 15)), (1, .int p1), (2, .int p2), (5, .int x5), (6, .int x6)]) hx hb dX9_laysOne_117 hl (by decide) rfl (fun ls hl => ?_)
              obtain ⟨y8, ey8⟩ : ∃ y : Int32, y = x6 + 1 := ⟨_, rfl⟩
              have h := h y8 ey8
              refine lv_iinc (v := y8) (lv' := [(6, .int y8), (4, .int y7), (3, .int y5), (7, .int r6), (0, .ref (eA E 15)), (1, .int p1), (2, .int p2), (5, .int x5)]) hx hb dX9_laysOne_119 hl (k := 7) rfl (by rw [ey8]; first | rfl | decide) (by decide) rfl (fun ls hl => ?_)
              refine lv_goto (tgt := 22) hx hb dX9_laysOne_122 (by decide) ?_
              exact h _ _ hw _ (lv_sub hl [4, 5, 6, 2, 1, 7, 0] rfl)
          · have h := h.1 c7
            refine lv_goto (tgt := 119) hx hb dX9_laysOne_74 (by decide) ?_
            obtain ⟨y9, ey9⟩ : ∃ y : Int32, y = x6 + 1 := ⟨_, rfl⟩
            have h := h y9 ey9
            refine lv_iinc (v := y9) (lv' := [(6, .int y9), (7, .int r6), (0, .ref (eA E 15)), (1, .int p1), (2, .int p2), (3, .int x3), (4, .int x4), (5, .int x5)]) hx hb dX9_laysOne_119 hl (k := 7) rfl (by rw [ey9]; first | rfl | decide) (by decide) rfl (fun ls hl => ?_)
            refine lv_goto (tgt := 22) hx hb dX9_laysOne_122 (by decide) ?_
            exact h _ _ hw _ (lv_sub hl [2, 3, 4, 5, 6, 7, 0] rfl)
  refine lv_iconst (v := 0) hx hb dX9_laysOne_0 (by decide) ?_
  refine lv_istore_n (lv' := [(3, .int 0), (0, .ref (eA E 15)), (1, .int p1), (2, .int p2)]) hx hb dX9_laysOne_1 rfl hl (by decide) rfl (fun ls hl => ?_)
  refine lv_iconst (v := 0) hx hb dX9_laysOne_2 (by decide) ?_
  refine lv_istore (lv' := [(4, .int 0), (3, .int 0), (0, .ref (eA E 15)), (1, .int p1), (2, .int p2)]) hx hb dX9_laysOne_3 hl (by decide) rfl (fun ls hl => ?_)
  refine lv_iconst (v := 1) hx hb dX9_laysOne_5 (by decide) ?_
  refine lv_istore (lv' := [(5, .int 1), (4, .int 0), (3, .int 0), (0, .ref (eA E 15)), (1, .int p1), (2, .int p2)]) hx hb dX9_laysOne_6 hl (by decide) rfl (fun ls hl => ?_)
  exact h _ _ hw _ (lv_sub hl [3, 4, 5, 2, 1, 0] rfl)
theorem hy_X9_lays : yX9_lays.cls ≠ "java/lang/invoke/MethodHandle" ∧ yX9_lays.cls ≠ "java/lang/invoke/VarHandle" ∧ (parseMethodDescriptor yX9_lays.desc).map (fun d => d.parameters.length) = some 1 := by decide +kernel
def wp_X9_lays (w : Wd) (p1 : Int32) (Post : Wd → Prop) : Prop :=
  ∀ J11 : Int32 → Int32 → Wd → Prop, (∀ (x2 : Int32) (x3 : Int32) (w : Wd), ((x2 ≤ x3 → (Post w)) ∧ (¬ x2 ≤ x3 → (wp_X9_bits w x3 (fun r2 w2 => wp_X9_of w2 p1 1 (fun r3 w3 => (r3 < r2 → (∀ y2 : Int32, y2 = x3 + 2 → (J11 x2 y2 w3))) ∧ (¬ r3 < r2 → (wp_X9_laysOne w3 p1 x3 (fun w4 => ∀ y3 : Int32, y3 = x3 + 2 → (J11 x2 y3 w4))))))))) → J11 x2 x3 w) →
  wp_X9_of w p1 0 (fun r1 w1 => ∀ y1 : Int32, y1 = (2 : Int32) <<< (r1 &&& 31) → (J11 y1 0 w1))
set_option maxHeartbeats 4000000 in
set_option maxRecDepth 100000 in
theorem mt_X9_lays (l : Launch) {E : En} (hI : Inj E) (hF : ∀ o, (15 ≤ o ∧ o < 25) → o ∈ eL E) (w : Wd) (p1 : Int32) {Post : Wd → Prop} (h : wp_X9_lays w p1 Post) : MV l E yX9_lays cX9_lays 4 none 4 95 [.ref (eA E 15), .int p1] w Post := by
  refine MG.intro hI (by decide +kernel) (Nat.le_of_ble_eq_true rfl) ?_
  intro p e s m args below meth c Q C hr hlk hQ hw ls hl
  have hx := C.1
  have hb := C.2.1
  have hl : lv_has ls 4 [(0, .ref (eA E 15)), (1, .int p1)] := hl
  unfold wp_X9_lays at h
  have h := h (fun x2 x3 w => Jp E p l e (Rm 4 95) s m args below meth c Q 4 11 [(0, .ref (eA E 15)), (1, .int p1), (2, .int x2), (3, .int x3)] w)
  have h := h ?_
  rotate_left
  · intro x2 x3 w h H locs hw ls hl
    refine lv_iload_n hx hb dX9_lays_11 rfl (lv_at hl 3 rfl) ?_
    refine lv_iload_n hx hb dX9_lays_12 rfl (lv_at hl 2 rfl) ?_
    refine lv_icmp_ge (tgt := 41) hx hb dX9_lays_13 (by decide) (fun c1 => ?_) (fun c1 => ?_)
    · have h := h.1 c1
      rw [hQ]
      exact ret_v C hr hlk hw h dX9_lays_41
    · have h := h.2 c1
      refine lv_iload_n hx hb dX9_lays_16 rfl (lv_at hl 3 rfl) ?_
      refine done_i hw (my_runS (As := [.int x3]) (rest := []) C hw (mt_X9_bits l C.2.2.2.2.2.2.2 hF _ _ h) K_m_X9_128 K_s_X9_bits K_n_X9 K_c_X9_bits hy_X9_bits ⟨Nat.le_of_ble_eq_true rfl, Nat.le_of_ble_eq_true rfl⟩ hl.1 rfl (Nat.le_of_ble_eq_true rfl) dX9_lays_17 ⟨Nat.zero_le _, Nat.zero_le _⟩) (fun r2 w2 H locs h hw => ?_)
      refine lv_aload_n hx hb dX9_lays_20 rfl (lv_at hl 0 rfl) ?_
      refine lv_iload_n hx hb dX9_lays_21 rfl (lv_at hl 1 rfl) ?_
      refine lv_iconst (v := 1) hx hb dX9_lays_22 (by decide) ?_
      refine done_i hw (my_runV (As := [.int p1, .int 1]) (rest := [.int r2]) C hw 15 9 (hF 15 (by decide)) rfl rfl (mt_X9_of l C.2.2.2.2.2.2.2 hF _ _ _ h) K_m_X9_173 K_i_X9_of K_v_X9_of K_n_X9 K_c_X9_of hy_X9_of ⟨Nat.le_of_ble_eq_true rfl, Nat.le_of_ble_eq_true rfl⟩ hl.1 rfl (Nat.le_of_ble_eq_true rfl) dX9_lays_23 ⟨Nat.zero_le _, Nat.zero_le _⟩) (fun r3 w3 H locs h hw => ?_)
      refine lv_icmp_gt (tgt := 35) hx hb dX9_lays_26 (by decide) (fun c2 => ?_) (fun c2 => ?_)
      · have h := h.1 c2
        obtain ⟨y2, ey2⟩ : ∃ y : Int32, y = x3 + 2 := ⟨_, rfl⟩
        have h := h y2 ey2
        refine lv_iinc (v := y2) (lv' := [(3, .int y2), (0, .ref (eA E 15)), (1, .int p1), (2, .int x2)]) hx hb dX9_lays_35 hl (k := 3) rfl (by rw [ey2]; first | rfl | decide) (by decide) rfl (fun ls hl => ?_)
        refine lv_goto (tgt := 11) hx hb dX9_lays_38 (by decide) ?_
        exact h _ _ hw _ (lv_sub hl [1, 2, 3, 0] rfl)
      · have h := h.2 c2
        refine lv_aload_n hx hb dX9_lays_29 rfl (lv_at hl 0 rfl) ?_
        refine lv_iload_n hx hb dX9_lays_30 rfl (lv_at hl 1 rfl) ?_
        refine lv_iload_n hx hb dX9_lays_31 rfl (lv_at hl 3 rfl) ?_
        refine done_v hw (my_runV (As := [.int p1, .int x3]) (rest := []) C hw 15 9 (hF 15 (by decide)) rfl rfl (mt_X9_laysOne l C.2.2.2.2.2.2.2 hF _ _ _ h) K_m_X9_176 K_i_X9_laysOne K_v_X9_laysOne K_n_X9 K_c_X9_laysOne hy_X9_laysOne ⟨Nat.le_of_ble_eq_true rfl, Nat.le_of_ble_eq_true rfl⟩ hl.1 rfl (Nat.le_of_ble_eq_true rfl) dX9_lays_32 ⟨Nat.zero_le _, Nat.zero_le _⟩) (fun w4 H locs h hw => ?_)
        obtain ⟨y3, ey3⟩ : ∃ y : Int32, y = x3 + 2 := ⟨_, rfl⟩
        have h := h y3 ey3
        refine lv_iinc (v := y3) (lv' := [(3, .int y3), (0, .ref (eA E 15)), (1, .int p1), (2, .int x2)]) hx hb dX9_lays_35 hl (k := 3) rfl (by rw [ey3]; first | rfl | decide) (by decide) rfl (fun ls hl => ?_)
        refine lv_goto (tgt := 11) hx hb dX9_lays_38 (by decide) ?_
        exact h _ _ hw _ (lv_sub hl [1, 2, 3, 0] rfl)
  refine lv_iconst (v := 2) hx hb dX9_lays_0 (by decide) ?_
  refine lv_aload_n hx hb dX9_lays_1 rfl (lv_at hl 0 rfl) ?_
  refine lv_iload_n hx hb dX9_lays_2 rfl (lv_at hl 1 rfl) ?_
  refine lv_iconst (v := 0) hx hb dX9_lays_3 (by decide) ?_
  refine done_i hw (my_runV (As := [.int p1, .int 0]) (rest := [.int 2]) C hw 15 9 (hF 15 (by decide)) rfl rfl (mt_X9_of l C.2.2.2.2.2.2.2 hF _ _ _ h) K_m_X9_173 K_i_X9_of K_v_X9_of K_n_X9 K_c_X9_of hy_X9_of ⟨Nat.le_of_ble_eq_true rfl, Nat.le_of_ble_eq_true rfl⟩ hl.1 rfl (Nat.le_of_ble_eq_true rfl) dX9_lays_4 ⟨Nat.zero_le _, Nat.zero_le _⟩) (fun r1 w1 H locs h hw => ?_)
  refine lv_ishl hx hb dX9_lays_7 ?_
  refine lv_topi (fun y1 ey1 => ?_)
  have h := h y1 ey1
  refine lv_istore_n (lv' := [(2, .int y1), (0, .ref (eA E 15)), (1, .int p1)]) hx hb dX9_lays_8 rfl hl (by decide) rfl (fun ls hl => ?_)
  refine lv_iconst (v := 0) hx hb dX9_lays_9 (by decide) ?_
  refine lv_istore_n (lv' := [(3, .int 0), (2, .int y1), (0, .ref (eA E 15)), (1, .int p1)]) hx hb dX9_lays_10 rfl hl (by decide) rfl (fun ls hl => ?_)
  exact h _ _ hw _ (lv_sub hl [2, 3, 1, 0] rfl)
theorem hy_X9_worthOf : yX9_worthOf.cls ≠ "java/lang/invoke/MethodHandle" ∧ yX9_worthOf.cls ≠ "java/lang/invoke/VarHandle" ∧ (parseMethodDescriptor yX9_worthOf.desc).map (fun d => d.parameters.length) = some 1 := by decide +kernel
def wp_X9_worthOf (w : Wd) (p1 : Int32) (Post : Int32 → Wd → Prop) : Prop :=
  wp_X9_lays w p1 (fun w1 => wp_X9_of w1 p1 2 (fun r1 w2 => vp_in r1 8192 ∧ (Post (gA w2 22 r1.toNatClampNeg) w2)))
set_option maxHeartbeats 4000000 in
set_option maxRecDepth 100000 in
theorem mt_X9_worthOf (l : Launch) {E : En} (hI : Inj E) (hF : ∀ o, (15 ≤ o ∧ o < 25) → o ∈ eL E) (w : Wd) (p1 : Int32) {Post : Int32 → Wd → Prop} (h : wp_X9_worthOf w p1 Post) : MI l E yX9_worthOf cX9_worthOf 2 (some .int) 5 118 [.ref (eA E 15), .int p1] w Post := by
  refine MG.intro hI (by decide +kernel) (Nat.le_of_ble_eq_true rfl) ?_
  intro p e s m args below meth c Q C hr hlk hQ hw ls hl
  have hx := C.1
  have hb := C.2.1
  have hl : lv_has ls 2 [(0, .ref (eA E 15)), (1, .int p1)] := hl
  unfold wp_X9_worthOf at h
  refine lv_aload_n hx hb dX9_worthOf_0 rfl (lv_at hl 0 rfl) ?_
  refine lv_iload_n hx hb dX9_worthOf_1 rfl (lv_at hl 1 rfl) ?_
  refine done_v hw (my_runV (As := [.int p1]) (rest := []) C hw 15 9 (hF 15 (by decide)) rfl rfl (mt_X9_lays l C.2.2.2.2.2.2.2 hF _ _ h) K_m_X9_184 K_i_X9_lays K_v_X9_lays K_n_X9 K_c_X9_lays hy_X9_lays ⟨Nat.le_of_ble_eq_true rfl, Nat.le_of_ble_eq_true rfl⟩ hl.1 rfl (Nat.le_of_ble_eq_true rfl) dX9_worthOf_2 ⟨Nat.zero_le _, Nat.zero_le _⟩) (fun w1 H locs h hw => ?_)
  refine lv_aload_n hx hb dX9_worthOf_5 rfl (lv_at hl 0 rfl) ?_
  refine g9_18 C hw (hF 15 (by decide)) K_f_X9_30 dX9_worthOf_6 ?_
  refine lv_aload_n hx hb dX9_worthOf_9 rfl (lv_at hl 0 rfl) ?_
  refine lv_iload_n hx hb dX9_worthOf_10 rfl (lv_at hl 1 rfl) ?_
  refine lv_iconst (v := 2) hx hb dX9_worthOf_11 (by decide) ?_
  refine done_i hw (my_runV (As := [.int p1, .int 2]) (rest := [.ref (eA E 22)]) C hw 15 9 (hF 15 (by decide)) rfl rfl (mt_X9_of l C.2.2.2.2.2.2.2 hF _ _ _ h) K_m_X9_173 K_i_X9_of K_v_X9_of K_n_X9 K_c_X9_of hy_X9_of ⟨Nat.le_of_ble_eq_true rfl, Nat.le_of_ble_eq_true rfl⟩ hl.1 rfl (Nat.le_of_ble_eq_true rfl) dX9_worthOf_12 ⟨Nat.zero_le _, Nat.zero_le _⟩) (fun r1 w2 H locs h hw => ?_)
  obtain ⟨hi1, h⟩ := h
  refine r_iald C hw 22 8192 (hF 22 (by decide)) rfl hi1 dX9_worthOf_15 ?_
  rw [hQ]
  exact ret_i C hr hlk hw h dX9_worthOf_16
theorem hy_X9_sumNow : yX9_sumNow.cls ≠ "java/lang/invoke/MethodHandle" ∧ yX9_sumNow.cls ≠ "java/lang/invoke/VarHandle" ∧ (parseMethodDescriptor yX9_sumNow.desc).map (fun d => d.parameters.length) = some 0 := by decide +kernel
def wp_X9_sumNow (w : Wd) (Post : Int32 → Wd → Prop) : Prop :=
  ∀ J4 : Int32 → Int32 → Wd → Prop, (∀ (x1 : Int32) (x2 : Int32) (w : Wd), (wp_X9_ladders w (fun r1 w1 => (r1 ≤ x2 → (Post x1 w1)) ∧ (¬ r1 ≤ x2 → (wp_X9_worthOf w1 x2 (fun r2 w2 => ∀ y1 : Int32, y1 = x1 ^^^ r2 → (∀ y2 : Int32, y2 = x2 + 1 → (J4 y1 y2 w2))))))) → J4 x1 x2 w) →
  J4 0 0 w
set_option maxHeartbeats 4000000 in
set_option maxRecDepth 100000 in
theorem mt_X9_sumNow (l : Launch) {E : En} (hI : Inj E) (hF : ∀ o, (15 ≤ o ∧ o < 25) → o ∈ eL E) (w : Wd) {Post : Int32 → Wd → Prop} (h : wp_X9_sumNow w Post) : MI l E yX9_sumNow cX9_sumNow 3 (some .int) 6 139 [.ref (eA E 15)] w Post := by
  refine MG.intro hI (by decide +kernel) (Nat.le_of_ble_eq_true rfl) ?_
  intro p e s m args below meth c Q C hr hlk hQ hw ls hl
  have hx := C.1
  have hb := C.2.1
  have hl : lv_has ls 3 [(0, .ref (eA E 15))] := hl
  unfold wp_X9_sumNow at h
  have h := h (fun x1 x2 w => Jp E p l e (Rm 6 139) s m args below meth c Q 3 4 [(0, .ref (eA E 15)), (1, .int x1), (2, .int x2)] w)
  have h := h ?_
  rotate_left
  · intro x1 x2 w h H locs hw ls hl
    refine lv_iload_n hx hb dX9_sumNow_4 rfl (lv_at hl 2 rfl) ?_
    refine lv_aload_n hx hb dX9_sumNow_5 rfl (lv_at hl 0 rfl) ?_
    refine done_i hw (my_runV (As := []) (rest := [.int x2]) C hw 15 9 (hF 15 (by decide)) rfl rfl (mt_X9_ladders l C.2.2.2.2.2.2.2 hF _ h) K_m_X9_163 K_i_X9_ladders K_v_X9_ladders K_n_X9 K_c_X9_ladders hy_X9_ladders ⟨Nat.le_of_ble_eq_true rfl, Nat.le_of_ble_eq_true rfl⟩ hl.1 rfl (Nat.le_of_ble_eq_true rfl) dX9_sumNow_6 ⟨Nat.zero_le _, Nat.zero_le _⟩) (fun r1 w1 H locs h hw => ?_)
    refine lv_icmp_ge (tgt := 26) hx hb dX9_sumNow_9 (by decide) (fun c1 => ?_) (fun c1 => ?_)
    · have h := h.1 c1
      refine lv_iload_n hx hb dX9_sumNow_26 rfl (lv_at hl 1 rfl) ?_
      rw [hQ]
      exact ret_i C hr hlk hw h dX9_sumNow_27
    · have h := h.2 c1
      refine lv_iload_n hx hb dX9_sumNow_12 rfl (lv_at hl 1 rfl) ?_
      refine lv_aload_n hx hb dX9_sumNow_13 rfl (lv_at hl 0 rfl) ?_
      refine lv_iload_n hx hb dX9_sumNow_14 rfl (lv_at hl 2 rfl) ?_
      refine done_i hw (my_runV (As := [.int x2]) (rest := [.int x1]) C hw 15 9 (hF 15 (by decide)) rfl rfl (mt_X9_worthOf l C.2.2.2.2.2.2.2 hF _ _ h) K_m_X9_187 K_i_X9_worthOf K_v_X9_worthOf K_n_X9 K_c_X9_worthOf hy_X9_worthOf ⟨Nat.le_of_ble_eq_true rfl, Nat.le_of_ble_eq_true rfl⟩ hl.1 rfl (Nat.le_of_ble_eq_true rfl) dX9_sumNow_15 ⟨Nat.zero_le _, Nat.zero_le _⟩) (fun r2 w2 H locs h hw => ?_)
      refine lv_ixor hx hb dX9_sumNow_18 ?_
      refine lv_topi (fun y1 ey1 => ?_)
      have h := h y1 ey1
      refine lv_istore_n (lv' := [(1, .int y1), (0, .ref (eA E 15)), (2, .int x2)]) hx hb dX9_sumNow_19 rfl hl (by decide) rfl (fun ls hl => ?_)
      obtain ⟨y2, ey2⟩ : ∃ y : Int32, y = x2 + 1 := ⟨_, rfl⟩
      have h := h y2 ey2
      refine lv_iinc (v := y2) (lv' := [(2, .int y2), (1, .int y1), (0, .ref (eA E 15))]) hx hb dX9_sumNow_20 hl (k := 2) rfl (by rw [ey2]; first | rfl | decide) (by decide) rfl (fun ls hl => ?_)
      refine lv_goto (tgt := 4) hx hb dX9_sumNow_23 (by decide) ?_
      exact h _ _ hw _ (lv_sub hl [2, 1, 0] rfl)
  refine lv_iconst (v := 0) hx hb dX9_sumNow_0 (by decide) ?_
  refine lv_istore_n (lv' := [(1, .int 0), (0, .ref (eA E 15))]) hx hb dX9_sumNow_1 rfl hl (by decide) rfl (fun ls hl => ?_)
  refine lv_iconst (v := 0) hx hb dX9_sumNow_2 (by decide) ?_
  refine lv_istore_n (lv' := [(2, .int 0), (1, .int 0), (0, .ref (eA E 15))]) hx hb dX9_sumNow_3 rfl hl (by decide) rfl (fun ls hl => ?_)
  exact h _ _ hw _ (lv_sub hl [2, 1, 0] rfl)
theorem hy_X9_stepsFrom : yX9_stepsFrom.cls ≠ "java/lang/invoke/MethodHandle" ∧ yX9_stepsFrom.cls ≠ "java/lang/invoke/VarHandle" ∧ (parseMethodDescriptor yX9_stepsFrom.desc).map (fun d => d.parameters.length) = some 2 := by decide +kernel
def wp_X9_stepsFrom (w : Wd) (p1 : Int32) (p2 : Int32) (Post : Int32 → Wd → Prop) : Prop :=
  ∀ J5 : Int32 → Int32 → Wd → Prop, ∀ J19 : Int32 → Int32 → Int32 → Wd → Prop, (∀ (x3 : Int32) (x4 : Int32) (w : Wd), (wp_X9_of w p1 0 (fun r1 w1 => (r1 < x4 → (Post x3 w1)) ∧ (¬ r1 < x4 → (J19 x3 x4 1 w1)))) → J5 x3 x4 w) →
  (∀ (x3 : Int32) (x4 : Int32) (x5 : Int32) (w : Wd), ((12 < x5 → (∀ y1 : Int32, y1 = x4 + 1 → (J5 x3 y1 w))) ∧ (¬ 12 < x5 → (wp_X9_has w p2 x4 (fun r2 w2 => (r2 = 0 → (∀ y2 : Int32, y2 = x4 + 1 → (J5 x3 y2 w2))) ∧ (¬ r2 = 0 → (wp_X9_of w2 p1 4 (fun r3 w3 => wp_X9_has w3 r3 x5 (fun r4 w4 => (r4 = 0 → (∀ y3 : Int32, y3 = x3 + 0 → (∀ y4 : Int32, y4 = x5 + 1 → (J19 y3 x4 y4 w4)))) ∧ (¬ r4 = 0 → (wp_X9_behind w4 p1 p2 x4 x5 (fun r5 w5 => (r5 = ((-1)) → (∀ y5 : Int32, y5 = x3 + 0 → (∀ y6 : Int32, y6 = x5 + 1 → (J19 y5 x4 y6 w5)))) ∧ (¬ r5 = ((-1)) → (∀ y7 : Int32, y7 = x3 + 1 → (∀ y8 : Int32, y8 = x5 + 1 → (J19 y7 x4 y8 w5))))))))))))))) → J19 x3 x4 x5 w) →
  J5 0 1 w
set_option maxHeartbeats 4000000 in
set_option maxRecDepth 100000 in
theorem mt_X9_stepsFrom (l : Launch) {E : En} (hI : Inj E) (hF : ∀ o, (15 ≤ o ∧ o < 25) → o ∈ eL E) (w : Wd) (p1 : Int32) (p2 : Int32) {Post : Int32 → Wd → Prop} (h : wp_X9_stepsFrom w p1 p2 Post) : MI l E yX9_stepsFrom cX9_stepsFrom 6 (some .int) 3 68 [.ref (eA E 15), .int p1, .int p2] w Post := by
  refine MG.intro hI (by decide +kernel) (Nat.le_of_ble_eq_true rfl) ?_
  intro p e s m args below meth c Q C hr hlk hQ hw ls hl
  have hx := C.1
  have hb := C.2.1
  have hl : lv_has ls 6 [(0, .ref (eA E 15)), (1, .int p1), (2, .int p2)] := hl
  unfold wp_X9_stepsFrom at h
  have h := h (fun x3 x4 w => Jp E p l e (Rm 3 68) s m args below meth c Q 6 5 [(0, .ref (eA E 15)), (1, .int p1), (2, .int p2), (3, .int x3), (4, .int x4)] w)
  have h := h (fun x3 x4 x5 w => Jp E p l e (Rm 3 68) s m args below meth c Q 6 19 [(0, .ref (eA E 15)), (1, .int p1), (2, .int p2), (3, .int x3), (4, .int x4), (5, .int x5)] w)
  have h := h ?_
  rotate_left
  · intro x3 x4 w h H locs hw ls hl
    refine lv_iload hx hb dX9_stepsFrom_5 (lv_at hl 4 rfl) ?_
    refine lv_aload_n hx hb dX9_stepsFrom_7 rfl (lv_at hl 0 rfl) ?_
    refine lv_iload_n hx hb dX9_stepsFrom_8 rfl (lv_at hl 1 rfl) ?_
    refine lv_iconst (v := 0) hx hb dX9_stepsFrom_9 (by decide) ?_
    refine done_i hw (my_runV (As := [.int p1, .int 0]) (rest := [.int x4]) C hw 15 9 (hF 15 (by decide)) rfl rfl (mt_X9_of l C.2.2.2.2.2.2.2 hF _ _ _ h) K_m_X9_173 K_i_X9_of K_v_X9_of K_n_X9 K_c_X9_of hy_X9_of ⟨Nat.le_of_ble_eq_true rfl, Nat.le_of_ble_eq_true rfl⟩ hl.1 rfl (Nat.le_of_ble_eq_true rfl) dX9_stepsFrom_10 ⟨Nat.zero_le _, Nat.zero_le _⟩) (fun r1 w1 H locs h hw => ?_)
    refine lv_icmp_gt (tgt := 83) hx hb dX9_stepsFrom_13 (by decide) (fun c1 => ?_) (fun c1 => ?_)
    · have h := h.1 c1
      refine lv_iload_n hx hb dX9_stepsFrom_83 rfl (lv_at hl 3 rfl) ?_
      rw [hQ]
      exact ret_i C hr hlk hw h dX9_stepsFrom_84
    · have h := h.2 c1
      refine lv_iconst (v := 1) hx hb dX9_stepsFrom_16 (by decide) ?_
      refine lv_istore (lv' := [(5, .int 1), (0, .ref (eA E 15)), (1, .int p1), (2, .int p2), (3, .int x3), (4, .int x4)]) hx hb dX9_stepsFrom_17 hl (by decide) rfl (fun ls hl => ?_)
      exact h _ _ hw _ (lv_sub hl [1, 2, 3, 4, 5, 0] rfl)
  have h := h ?_
  rotate_left
  · intro x3 x4 x5 w h H locs hw ls hl
    refine lv_iload hx hb dX9_stepsFrom_19 (lv_at hl 5 rfl) ?_
    refine lv_bipush (v := 12) hx hb dX9_stepsFrom_21 (by decide) ?_
    refine lv_icmp_gt (tgt := 77) hx hb dX9_stepsFrom_23 (by decide) (fun c2 => ?_) (fun c2 => ?_)
    · have h := h.1 c2
      obtain ⟨y1, ey1⟩ : ∃ y : Int32, y = x4 + 1 := ⟨_, rfl⟩
      have h := h y1 ey1
      refine lv_iinc (v := y1) (lv' := [(4, .int y1), (0, .ref (eA E 15)), (1, .int p1), (2, .int p2), (3, .int x3), (5, .int x5)]) hx hb dX9_stepsFrom_77 hl (k := 4) rfl (by rw [ey1]; first | rfl | decide) (by decide) rfl (fun ls hl => ?_)
      refine lv_goto (tgt := 5) hx hb dX9_stepsFrom_80 (by decide) ?_
      exact h _ _ hw _ (lv_sub hl [1, 2, 3, 4, 0] rfl)
    · have h := h.2 c2
      refine lv_iload_n hx hb dX9_stepsFrom_26 rfl (lv_at hl 2 rfl) ?_
      refine lv_iload hx hb dX9_stepsFrom_27 (lv_at hl 4 rfl) ?_
      refine done_i hw (my_runS (As := [.int p2, .int x4]) (rest := []) C hw (mt_X9_has l C.2.2.2.2.2.2.2 hF _ _ _ h) K_m_X9_118 K_s_X9_has K_n_X9 K_c_X9_has hy_X9_has ⟨Nat.le_of_ble_eq_true rfl, Nat.le_of_ble_eq_true rfl⟩ hl.1 rfl (Nat.le_of_ble_eq_true rfl) dX9_stepsFrom_29 ⟨Nat.zero_le _, Nat.zero_le _⟩) (fun r2 w2 H locs h hw => ?_)
      refine lv_if_eq (tgt := 77) hx hb dX9_stepsFrom_32 (by decide) (fun c3 => ?_) (fun c3 => ?_)
      · have h := h.1 c3
        obtain ⟨y2, ey2⟩ : ∃ y : Int32, y = x4 + 1 := ⟨_, rfl⟩
        have h := h y2 ey2
        refine lv_iinc (v := y2) (lv' := [(4, .int y2), (0, .ref (eA E 15)), (1, .int p1), (2, .int p2), (3, .int x3), (5, .int x5)]) hx hb dX9_stepsFrom_77 hl (k := 4) rfl (by rw [ey2]; first | rfl | decide) (by decide) rfl (fun ls hl => ?_)
        refine lv_goto (tgt := 5) hx hb dX9_stepsFrom_80 (by decide) ?_
        exact h _ _ hw _ (lv_sub hl [1, 2, 3, 4, 0] rfl)
      · have h := h.2 c3
        refine lv_iload_n hx hb dX9_stepsFrom_35 rfl (lv_at hl 3 rfl) ?_
        refine lv_aload_n hx hb dX9_stepsFrom_36 rfl (lv_at hl 0 rfl) ?_
        refine lv_iload_n hx hb dX9_stepsFrom_37 rfl (lv_at hl 1 rfl) ?_
        refine lv_iconst (v := 4) hx hb dX9_stepsFrom_38 (by decide) ?_
        refine done_i hw (my_runV (As := [.int p1, .int 4]) (rest := [.int x3]) C hw 15 9 (hF 15 (by decide)) rfl rfl (mt_X9_of l C.2.2.2.2.2.2.2 hF _ _ _ h) K_m_X9_173 K_i_X9_of K_v_X9_of K_n_X9 K_c_X9_of hy_X9_of ⟨Nat.le_of_ble_eq_true rfl, Nat.le_of_ble_eq_true rfl⟩ hl.1 rfl (Nat.le_of_ble_eq_true rfl) dX9_stepsFrom_39 ⟨Nat.zero_le _, Nat.zero_le _⟩) (fun r3 w3 H locs h hw => ?_)
        refine lv_iload hx hb dX9_stepsFrom_42 (lv_at hl 5 rfl) ?_
        refine done_i hw (my_runS (As := [.int r3, .int x5]) (rest := [.int x3]) C hw (mt_X9_has l C.2.2.2.2.2.2.2 hF _ _ _ h) K_m_X9_118 K_s_X9_has K_n_X9 K_c_X9_has hy_X9_has ⟨Nat.le_of_ble_eq_true rfl, Nat.le_of_ble_eq_true rfl⟩ hl.1 rfl (Nat.le_of_ble_eq_true rfl) dX9_stepsFrom_44 ⟨Nat.zero_le _, Nat.zero_le _⟩) (fun r4 w4 H locs h hw => ?_)
        refine lv_if_eq (tgt := 68) hx hb dX9_stepsFrom_47 (by decide) (fun c4 => ?_) (fun c4 => ?_)
        · have h := h.1 c4
          refine lv_iconst (v := 0) hx hb dX9_stepsFrom_68 (by decide) ?_
          refine lv_iadd hx hb dX9_stepsFrom_69 ?_
          refine lv_topi (fun y3 ey3 => ?_)
          have h := h y3 ey3
          refine lv_istore_n (lv' := [(3, .int y3), (0, .ref (eA E 15)), (1, .int p1), (2, .int p2), (4, .int x4), (5, .int x5)]) hx hb dX9_stepsFrom_70 rfl hl (by decide) rfl (fun ls hl => ?_)
          obtain ⟨y4, ey4⟩ : ∃ y : Int32, y = x5 + 1 := ⟨_, rfl⟩
          have h := h y4 ey4
          refine lv_iinc (v := y4) (lv' := [(5, .int y4), (3, .int y3), (0, .ref (eA E 15)), (1, .int p1), (2, .int p2), (4, .int x4)]) hx hb dX9_stepsFrom_71 hl (k := 5) rfl (by rw [ey4]; first | rfl | decide) (by decide) rfl (fun ls hl => ?_)
          refine lv_goto (tgt := 19) hx hb dX9_stepsFrom_74 (by decide) ?_
          exact h _ _ hw _ (lv_sub hl [2, 3, 4, 1, 5, 0] rfl)
        · have h := h.2 c4
          refine lv_aload_n hx hb dX9_stepsFrom_50 rfl (lv_at hl 0 rfl) ?_
          refine lv_iload_n hx hb dX9_stepsFrom_51 rfl (lv_at hl 1 rfl) ?_
          refine lv_iload_n hx hb dX9_stepsFrom_52 rfl (lv_at hl 2 rfl) ?_
          refine lv_iload hx hb dX9_stepsFrom_53 (lv_at hl 4 rfl) ?_
          refine lv_iload hx hb dX9_stepsFrom_55 (lv_at hl 5 rfl) ?_
          refine done_i hw (my_runV (As := [.int p1, .int p2, .int x4, .int x5]) (rest := [.int x3]) C hw 15 9 (hF 15 (by decide)) rfl rfl (mt_X9_behind l C.2.2.2.2.2.2.2 hF _ _ _ _ _ h) K_m_X9_180 K_i_X9_behind K_v_X9_behind K_n_X9 K_c_X9_behind hy_X9_behind ⟨Nat.le_of_ble_eq_true rfl, Nat.le_of_ble_eq_true rfl⟩ hl.1 rfl (Nat.le_of_ble_eq_true rfl) dX9_stepsFrom_57 ⟨Nat.zero_le _, Nat.zero_le _⟩) (fun r5 w5 H locs h hw => ?_)
          refine lv_iconst (v := (-1)) hx hb dX9_stepsFrom_60 (by decide) ?_
          refine lv_icmp_eq (tgt := 68) hx hb dX9_stepsFrom_61 (by decide) (fun c5 => ?_) (fun c5 => ?_)
          · have h := h.1 c5
            refine lv_iconst (v := 0) hx hb dX9_stepsFrom_68 (by decide) ?_
            refine lv_iadd hx hb dX9_stepsFrom_69 ?_
            refine lv_topi (fun y5 ey5 => ?_)
            have h := h y5 ey5
            refine lv_istore_n (lv' := [(3, .int y5), (0, .ref (eA E 15)), (1, .int p1), (2, .int p2), (4, .int x4), (5, .int x5)]) hx hb dX9_stepsFrom_70 rfl hl (by decide) rfl (fun ls hl => ?_)
            obtain ⟨y6, ey6⟩ : ∃ y : Int32, y = x5 + 1 := ⟨_, rfl⟩
            have h := h y6 ey6
            refine lv_iinc (v := y6) (lv' := [(5, .int y6), (3, .int y5), (0, .ref (eA E 15)), (1, .int p1), (2, .int p2), (4, .int x4)]) hx hb dX9_stepsFrom_71 hl (k := 5) rfl (by rw [ey6]; first | rfl | decide) (by decide) rfl (fun ls hl => ?_)
            refine lv_goto (tgt := 19) hx hb dX9_stepsFrom_74 (by decide) ?_
            exact h _ _ hw _ (lv_sub hl [2, 3, 4, 1, 5, 0] rfl)
          · have h := h.2 c5
            refine lv_iconst (v := 1) hx hb dX9_stepsFrom_64 (by decide) ?_
            refine lv_goto (tgt := 69) hx hb dX9_stepsFrom_65 (by decide) ?_
            refine lv_iadd hx hb dX9_stepsFrom_69 ?_
            refine lv_topi (fun y7 ey7 => ?_)
            have h := h y7 ey7
            refine lv_istore_n (lv' := [(3, .int y7), (0, .ref (eA E 15)), (1, .int p1), (2, .int p2), (4, .int x4), (5, .int x5)]) hx hb dX9_stepsFrom_70 rfl hl (by decide) rfl (fun ls hl => ?_)
            obtain ⟨y8, ey8⟩ : ∃ y : Int32, y = x5 + 1 := ⟨_, rfl⟩
            have h := h y8 ey8
            refine lv_iinc (v := y8) (lv' := [(5, .int y8), (3, .int y7), (0, .ref (eA E 15)), (1, .int p1), (2, .int p2), (4, .int x4)]) hx hb dX9_stepsFrom_71 hl (k := 5) rfl (by rw [ey8]; first | rfl | decide) (by decide) rfl (fun ls hl => ?_)
            refine lv_goto (tgt := 19) hx hb dX9_stepsFrom_74 (by decide) ?_
            exact h _ _ hw _ (lv_sub hl [2, 3, 4, 1, 5, 0] rfl)
  refine lv_iconst (v := 0) hx hb dX9_stepsFrom_0 (by decide) ?_
  refine lv_istore_n (lv' := [(3, .int 0), (0, .ref (eA E 15)), (1, .int p1), (2, .int p2)]) hx hb dX9_stepsFrom_1 rfl hl (by decide) rfl (fun ls hl => ?_)
  refine lv_iconst (v := 1) hx hb dX9_stepsFrom_2 (by decide) ?_
  refine lv_istore (lv' := [(4, .int 1), (3, .int 0), (0, .ref (eA E 15)), (1, .int p1), (2, .int p2)]) hx hb dX9_stepsFrom_3 hl (by decide) rfl (fun ls hl => ?_)
  exact h _ _ hw _ (lv_sub hl [2, 3, 4, 1, 0] rfl)
theorem hy_X9_isOver : yX9_isOver.cls ≠ "java/lang/invoke/MethodHandle" ∧ yX9_isOver.cls ≠ "java/lang/invoke/VarHandle" ∧ (parseMethodDescriptor yX9_isOver.desc).map (fun d => d.parameters.length) = some 0 := by decide +kernel
def wp_X9_isOver (w : Wd) (Post : Int32 → Wd → Prop) : Prop :=
  ∀ J2 : Int32 → Wd → Prop, (∀ (x1 : Int32) (w : Wd), (wp_X9_ladders w (fun r1 w1 => (r1 ≤ x1 → (Post 1 w1)) ∧ (¬ r1 ≤ x1 → (wp_X9_of w1 x1 2 (fun r2 w2 => wp_X9_stepsFrom w2 x1 r2 (fun r3 w3 => (r3 ≤ 0 → (∀ y1 : Int32, y1 = x1 + 1 → (J2 y1 w3))) ∧ (¬ r3 ≤ 0 → (Post 0 w3)))))))) → J2 x1 w) →
  J2 0 w
set_option maxHeartbeats 4000000 in
set_option maxRecDepth 100000 in
theorem mt_X9_isOver (l : Launch) {E : En} (hI : Inj E) (hF : ∀ o, (15 ≤ o ∧ o < 25) → o ∈ eL E) (w : Wd) {Post : Int32 → Wd → Prop} (h : wp_X9_isOver w Post) : MI l E yX9_isOver cX9_isOver 2 (some .boolean) 4 93 [.ref (eA E 15)] w Post := by
  refine MG.intro hI (by decide +kernel) (Nat.le_of_ble_eq_true rfl) ?_
  intro p e s m args below meth c Q C hr hlk hQ hw ls hl
  have hx := C.1
  have hb := C.2.1
  have hl : lv_has ls 2 [(0, .ref (eA E 15))] := hl
  unfold wp_X9_isOver at h
  have h := h (fun x1 w => Jp E p l e (Rm 4 93) s m args below meth c Q 2 2 [(0, .ref (eA E 15)), (1, .int x1)] w)
  have h := h ?_
  rotate_left
  · intro x1 w h H locs hw ls hl
    refine lv_iload_n hx hb dX9_isOver_2 rfl (lv_at hl 1 rfl) ?_
    refine lv_aload_n hx hb dX9_isOver_3 rfl (lv_at hl 0 rfl) ?_
    refine done_i hw (my_runV (As := []) (rest := [.int x1]) C hw 15 9 (hF 15 (by decide)) rfl rfl (mt_X9_ladders l C.2.2.2.2.2.2.2 hF _ h) K_m_X9_163 K_i_X9_ladders K_v_X9_ladders K_n_X9 K_c_X9_ladders hy_X9_ladders ⟨Nat.le_of_ble_eq_true rfl, Nat.le_of_ble_eq_true rfl⟩ hl.1 rfl (Nat.le_of_ble_eq_true rfl) dX9_isOver_4 ⟨Nat.zero_le _, Nat.zero_le _⟩) (fun r1 w1 H locs h hw => ?_)
    refine lv_icmp_ge (tgt := 32) hx hb dX9_isOver_7 (by decide) (fun c1 => ?_) (fun c1 => ?_)
    · have h := h.1 c1
      refine lv_iconst (v := 1) hx hb dX9_isOver_32 (by decide) ?_
      rw [hQ]
      exact ret_z C hr hlk hw h (by decide) dX9_isOver_33
    · have h := h.2 c1
      refine lv_aload_n hx hb dX9_isOver_10 rfl (lv_at hl 0 rfl) ?_
      refine lv_iload_n hx hb dX9_isOver_11 rfl (lv_at hl 1 rfl) ?_
      refine lv_aload_n hx hb dX9_isOver_12 rfl (lv_at hl 0 rfl) ?_
      refine lv_iload_n hx hb dX9_isOver_13 rfl (lv_at hl 1 rfl) ?_
      refine lv_iconst (v := 2) hx hb dX9_isOver_14 (by decide) ?_
      refine done_i hw (my_runV (As := [.int x1, .int 2]) (rest := [.int x1, .ref (eA E 15)]) C hw 15 9 (hF 15 (by decide)) rfl rfl (mt_X9_of l C.2.2.2.2.2.2.2 hF _ _ _ h) K_m_X9_173 K_i_X9_of K_v_X9_of K_n_X9 K_c_X9_of hy_X9_of ⟨Nat.le_of_ble_eq_true rfl, Nat.le_of_ble_eq_true rfl⟩ hl.1 rfl (Nat.le_of_ble_eq_true rfl) dX9_isOver_15 ⟨Nat.zero_le _, Nat.zero_le _⟩) (fun r2 w2 H locs h hw => ?_)
      refine done_i hw (my_runV (As := [.int x1, .int r2]) (rest := []) C hw 15 9 (hF 15 (by decide)) rfl rfl (mt_X9_stepsFrom l C.2.2.2.2.2.2.2 hF _ _ _ h) K_m_X9_190 K_i_X9_stepsFrom K_v_X9_stepsFrom K_n_X9 K_c_X9_stepsFrom hy_X9_stepsFrom ⟨Nat.le_of_ble_eq_true rfl, Nat.le_of_ble_eq_true rfl⟩ hl.1 rfl (Nat.le_of_ble_eq_true rfl) dX9_isOver_18 ⟨Nat.zero_le _, Nat.zero_le _⟩) (fun r3 w3 H locs h hw => ?_)
      refine lv_if_le (tgt := 26) hx hb dX9_isOver_21 (by decide) (fun c2 => ?_) (fun c2 => ?_)
      · have h := h.1 c2
        obtain ⟨y1, ey1⟩ : ∃ y : Int32, y = x1 + 1 := ⟨_, rfl⟩
        have h := h y1 ey1
        refine lv_iinc (v := y1) (lv' := [(1, .int y1), (0, .ref (eA E 15))]) hx hb dX9_isOver_26 hl (k := 1) rfl (by rw [ey1]; first | rfl | decide) (by decide) rfl (fun ls hl => ?_)
        refine lv_goto (tgt := 2) hx hb dX9_isOver_29 (by decide) ?_
        exact h _ _ hw _ (lv_sub hl [1, 0] rfl)
      · have h := h.2 c2
        refine lv_iconst (v := 0) hx hb dX9_isOver_24 (by decide) ?_
        rw [hQ]
        exact ret_z C hr hlk hw h (by decide) dX9_isOver_25
  refine lv_iconst (v := 0) hx hb dX9_isOver_0 (by decide) ?_
  refine lv_istore_n (lv' := [(1, .int 0), (0, .ref (eA E 15))]) hx hb dX9_isOver_1 rfl hl (by decide) rfl (fun ls hl => ?_)
  exact h _ _ hw _ (lv_sub hl [1, 0] rfl)
theorem hy_X9_size : yX9_size.cls ≠ "java/lang/invoke/MethodHandle" ∧ yX9_size.cls ≠ "java/lang/invoke/VarHandle" ∧ (parseMethodDescriptor yX9_size.desc).map (fun d => d.parameters.length) = some 1 := by decide +kernel
def wp_X9_size (w : Wd) (p1 : Int32) (Post : Int32 → Wd → Prop) : Prop :=
  (p1 = nI 0 → (wp_X9_ladders (sI w 15 0 0) (fun r1 w1 => Post r1 w1))) ∧ (¬ p1 = nI 0 → ((p1 = nI 1 → (Post (gA (sI w 15 0 0) 18 55) (sI w 15 0 0))) ∧ (¬ p1 = nI 1 → ((p1 = nI 2 → (Post (gA (sI w 15 0 0) 18 56) (sI w 15 0 0))) ∧ (¬ p1 = nI 2 → ((p1 = nI 3 → (wp_X9_isOver (sI w 15 0 0) (fun r2 w2 => (r2 = 0 → (Post 0 w2)) ∧ (¬ r2 = 0 → (Post 1 w2))))) ∧ (¬ p1 = nI 3 → ((p1 = nI 4 → (wp_X9_isOver (sI w 15 0 0) (fun r3 w3 => (r3 = 0 → (Post ((-1)) w3)) ∧ (¬ r3 = 0 → (Post (1 - (gA w3 18 55)) w3))))) ∧ (¬ p1 = nI 4 → ((p1 = nI 5 → (Post (gI (sI w 15 0 0) 15 15) (sI w 15 0 0))) ∧ (¬ p1 = nI 5 → (wp_X9_fail (sI w 15 0 0) 1 (fun r4 w4 => Post r4 w4)))))))))))))
set_option maxHeartbeats 4000000 in
set_option maxRecDepth 100000 in
theorem mt_X9_size (l : Launch) {E : En} (hI : Inj E) (hF : ∀ o, (15 ≤ o ∧ o < 25) → o ∈ eL E) (w : Wd) (p1 : Int32) {Post : Int32 → Wd → Prop} (h : wp_X9_size w p1 Post) : MI l E yX9_size cX9_size 2 (some .int) 5 114 [.ref (eA E 15), .int p1] w Post := by
  refine MG.intro hI (by decide +kernel) (Nat.le_of_ble_eq_true rfl) ?_
  intro p e s m args below meth c Q C hr hlk hQ hw ls hl
  have hx := C.1
  have hb := C.2.1
  have hl : lv_has ls 2 [(0, .ref (eA E 15)), (1, .int p1)] := hl
  unfold wp_X9_size at h
  refine lv_aload_n hx hb dX9_size_0 rfl (lv_at hl 0 rfl) ?_
  refine lv_iconst (v := 0) hx hb dX9_size_1 (by decide) ?_
  refine p9_0 C hw (hF 15 (by decide)) K_f_X9_45 dX9_size_2 (fun H locs hw => ?_)
  refine lv_iload_n hx hb dX9_size_5 rfl (lv_at hl 1 rfl) ?_
  by_cases c1 : p1 = nI 0
  · have h := h.1 c1
    obtain ⟨s1, s2, s3⟩ := sw_in (hi := 5) c1 (by decide) (by decide)
    refine lv_tableIn (tgt := 44) hx hb dX9_size_6 s1 s2 (by rw [s3]; rfl) (by decide) ?_
    refine lv_aload_n hx hb dX9_size_44 rfl (lv_at hl 0 rfl) ?_
    refine done_i hw (my_runV (As := []) (rest := []) C hw 15 9 (hF 15 (by decide)) rfl rfl (mt_X9_ladders l C.2.2.2.2.2.2.2 hF _ h) K_m_X9_163 K_i_X9_ladders K_v_X9_ladders K_n_X9 K_c_X9_ladders hy_X9_ladders ⟨Nat.le_of_ble_eq_true rfl, Nat.le_of_ble_eq_true rfl⟩ hl.1 rfl (Nat.le_of_ble_eq_true rfl) dX9_size_45 ⟨Nat.zero_le _, Nat.zero_le _⟩) (fun r1 w1 H locs h hw => ?_)
    rw [hQ]
    exact ret_i C hr hlk hw h dX9_size_48
  · have h := h.2 c1
    by_cases c2 : p1 = nI 1
    · have h := h.1 c2
      obtain ⟨s1, s2, s3⟩ := sw_in (hi := 5) c2 (by decide) (by decide)
      refine lv_tableIn (tgt := 49) hx hb dX9_size_6 s1 s2 (by rw [s3]; rfl) (by decide) ?_
      refine lv_aload_n hx hb dX9_size_49 rfl (lv_at hl 0 rfl) ?_
      refine g9_13 C hw (hF 15 (by decide)) K_f_X9_17 dX9_size_50 ?_
      refine lv_bipush (v := 55) hx hb dX9_size_53 (by decide) ?_
      refine r_iald C hw 18 140 (hF 18 (by decide)) rfl (vp_lit (by decide)) dX9_size_55 ?_
      rw [hQ]
      exact ret_i C hr hlk hw h dX9_size_56
    · have h := h.2 c2
      by_cases c3 : p1 = nI 2
      · have h := h.1 c3
        obtain ⟨s1, s2, s3⟩ := sw_in (hi := 5) c3 (by decide) (by decide)
        refine lv_tableIn (tgt := 57) hx hb dX9_size_6 s1 s2 (by rw [s3]; rfl) (by decide) ?_
        refine lv_aload_n hx hb dX9_size_57 rfl (lv_at hl 0 rfl) ?_
        refine g9_13 C hw (hF 15 (by decide)) K_f_X9_17 dX9_size_58 ?_
        refine lv_bipush (v := 56) hx hb dX9_size_61 (by decide) ?_
        refine r_iald C hw 18 140 (hF 18 (by decide)) rfl (vp_lit (by decide)) dX9_size_63 ?_
        rw [hQ]
        exact ret_i C hr hlk hw h dX9_size_64
      · have h := h.2 c3
        by_cases c4 : p1 = nI 3
        · have h := h.1 c4
          obtain ⟨s1, s2, s3⟩ := sw_in (hi := 5) c4 (by decide) (by decide)
          refine lv_tableIn (tgt := 65) hx hb dX9_size_6 s1 s2 (by rw [s3]; rfl) (by decide) ?_
          refine lv_aload_n hx hb dX9_size_65 rfl (lv_at hl 0 rfl) ?_
          refine done_i hw (my_runV (As := []) (rest := []) C hw 15 9 (hF 15 (by decide)) rfl rfl (mt_X9_isOver l C.2.2.2.2.2.2.2 hF _ h) K_m_X9_193 K_i_X9_isOver K_v_X9_isOver K_n_X9 K_c_X9_isOver hy_X9_isOver ⟨Nat.le_of_ble_eq_true rfl, Nat.le_of_ble_eq_true rfl⟩ hl.1 rfl (Nat.le_of_ble_eq_true rfl) dX9_size_66 ⟨Nat.zero_le _, Nat.zero_le _⟩) (fun r2 w2 H locs h hw => ?_)
          refine lv_if_eq (tgt := 76) hx hb dX9_size_69 (by decide) (fun c5 => ?_) (fun c5 => ?_)
          · have h := h.1 c5
            refine lv_iconst (v := 0) hx hb dX9_size_76 (by decide) ?_
            rw [hQ]
            exact ret_i C hr hlk hw h dX9_size_77
          · have h := h.2 c5
            refine lv_iconst (v := 1) hx hb dX9_size_72 (by decide) ?_
            refine lv_goto (tgt := 77) hx hb dX9_size_73 (by decide) ?_
            rw [hQ]
            exact ret_i C hr hlk hw h dX9_size_77
        · have h := h.2 c4
          by_cases c6 : p1 = nI 4
          · have h := h.1 c6
            obtain ⟨s1, s2, s3⟩ := sw_in (hi := 5) c6 (by decide) (by decide)
            refine lv_tableIn (tgt := 78) hx hb dX9_size_6 s1 s2 (by rw [s3]; rfl) (by decide) ?_
            refine lv_aload_n hx hb dX9_size_78 rfl (lv_at hl 0 rfl) ?_
            refine done_i hw (my_runV (As := []) (rest := []) C hw 15 9 (hF 15 (by decide)) rfl rfl (mt_X9_isOver l C.2.2.2.2.2.2.2 hF _ h) K_m_X9_193 K_i_X9_isOver K_v_X9_isOver K_n_X9 K_c_X9_isOver hy_X9_isOver ⟨Nat.le_of_ble_eq_true rfl, Nat.le_of_ble_eq_true rfl⟩ hl.1 rfl (Nat.le_of_ble_eq_true rfl) dX9_size_79 ⟨Nat.zero_le _, Nat.zero_le _⟩) (fun r3 w3 H locs h hw => ?_)
            refine lv_if_eq (tgt := 97) hx hb dX9_size_82 (by decide) (fun c7 => ?_) (fun c7 => ?_)
            · have h := h.1 c7
              refine lv_iconst (v := (-1)) hx hb dX9_size_97 (by decide) ?_
              rw [hQ]
              exact ret_i C hr hlk hw h dX9_size_98
            · have h := h.2 c7
              refine lv_iconst (v := 1) hx hb dX9_size_85 (by decide) ?_
              refine lv_aload_n hx hb dX9_size_86 rfl (lv_at hl 0 rfl) ?_
              refine g9_13 C hw (hF 15 (by decide)) K_f_X9_17 dX9_size_87 ?_
              refine lv_bipush (v := 55) hx hb dX9_size_90 (by decide) ?_
              refine r_iald C hw 18 140 (hF 18 (by decide)) rfl (vp_lit (by decide)) dX9_size_92 ?_
              refine lv_isub hx hb dX9_size_93 ?_
              refine lv_goto (tgt := 98) hx hb dX9_size_94 (by decide) ?_
              rw [hQ]
              exact ret_i C hr hlk hw h dX9_size_98
          · have h := h.2 c6
            by_cases c8 : p1 = nI 5
            · have h := h.1 c8
              obtain ⟨s1, s2, s3⟩ := sw_in (hi := 5) c8 (by decide) (by decide)
              refine lv_tableIn (tgt := 99) hx hb dX9_size_6 s1 s2 (by rw [s3]; rfl) (by decide) ?_
              refine lv_aload_n hx hb dX9_size_99 rfl (lv_at hl 0 rfl) ?_
              refine g9_15 C hw (hF 15 (by decide)) K_f_X9_115 dX9_size_100 ?_
              rw [hQ]
              exact ret_i C hr hlk hw h dX9_size_103
            · have h := h.2 c8
              refine lv_tableOut (tgt := 104) hx hb dX9_size_6 (sw_out (n := 6) (by decide) (fun j hj => by rcases (show j = 0 ∨ j = 1 ∨ j = 2 ∨ j = 3 ∨ j = 4 ∨ j = 5 by omega) with rfl | rfl | rfl | rfl | rfl | rfl <;> assumption) (by decide)) (by decide) ?_
              refine lv_aload_n hx hb dX9_size_104 rfl (lv_at hl 0 rfl) ?_
              refine lv_iconst (v := 1) hx hb dX9_size_105 (by decide) ?_
              refine done_i hw (my_runV (As := [.int 1]) (rest := []) C hw 15 9 (hF 15 (by decide)) rfl rfl (mt_X9_fail l C.2.2.2.2.2.2.2 hF _ _ h) K_m_X9_157 K_i_X9_fail K_v_X9_fail K_n_X9 K_c_X9_fail hy_X9_fail ⟨Nat.le_of_ble_eq_true rfl, Nat.le_of_ble_eq_true rfl⟩ hl.1 rfl (Nat.le_of_ble_eq_true rfl) dX9_size_106 ⟨Nat.zero_le _, Nat.zero_le _⟩) (fun r4 w4 H locs h hw => ?_)
              rw [hQ]
              exact ret_i C hr hlk hw h dX9_size_109
theorem hy_X9_ladder : yX9_ladder.cls ≠ "java/lang/invoke/MethodHandle" ∧ yX9_ladder.cls ≠ "java/lang/invoke/VarHandle" ∧ (parseMethodDescriptor yX9_ladder.desc).map (fun d => d.parameters.length) = some 2 := by decide +kernel
def wp_X9_ladder (w : Wd) (p1 : Int32) (p2 : Int32) (Post : Int32 → Wd → Prop) : Prop :=
  wp_X9_isLadder w p1 (fun r1 w1 => (r1 = 0 → (((gI (sI w1 15 0 1) 15 0) ≤ 0 → ((p2 = nI 0 → (wp_X9_of (sI w1 15 0 1) p1 0 (fun r19 w19 => Post r19 w19))) ∧ (¬ p2 = nI 0 → ((p2 = nI 1 → (wp_X9_of (sI w1 15 0 1) p1 1 (fun r20 w20 => Post r20 w20))) ∧ (¬ p2 = nI 1 → ((p2 = nI 2 → (wp_X9_of (sI w1 15 0 1) p1 1 (fun r21 w21 => wp_X9_of w21 p1 2 (fun r22 w22 => wp_X9_bits w22 r22 (fun r23 w23 => Post (r21 - r23) w23))))) ∧ (¬ p2 = nI 2 → ((p2 = nI 3 → (wp_X9_worthOf (sI w1 15 0 1) p1 (fun r24 w24 => Post r24 w24))) ∧ (¬ p2 = nI 3 → ((p2 = nI 4 → (wp_X9_of (sI w1 15 0 1) p1 5 (fun r25 w25 => Post r25 w25))) ∧ (¬ p2 = nI 4 → (wp_X9_of (sI w1 15 0 1) p1 6 (fun r26 w26 => Post r26 w26))))))))))))) ∧ (¬ (gI (sI w1 15 0 1) 15 0) ≤ 0 → (Post 0 (sI w1 15 0 1))))) ∧ (¬ r1 = 0 → (wp_X9_within w1 p2 0 5 (fun r2 w2 => (r2 = 0 → (((gI (sI w2 15 0 2) 15 0) ≤ 0 → ((p2 = nI 0 → (wp_X9_of (sI w2 15 0 2) p1 0 (fun r11 w11 => Post r11 w11))) ∧ (¬ p2 = nI 0 → ((p2 = nI 1 → (wp_X9_of (sI w2 15 0 2) p1 1 (fun r12 w12 => Post r12 w12))) ∧ (¬ p2 = nI 1 → ((p2 = nI 2 → (wp_X9_of (sI w2 15 0 2) p1 1 (fun r13 w13 => wp_X9_of w13 p1 2 (fun r14 w14 => wp_X9_bits w14 r14 (fun r15 w15 => Post (r13 - r15) w15))))) ∧ (¬ p2 = nI 2 → ((p2 = nI 3 → (wp_X9_worthOf (sI w2 15 0 2) p1 (fun r16 w16 => Post r16 w16))) ∧ (¬ p2 = nI 3 → ((p2 = nI 4 → (wp_X9_of (sI w2 15 0 2) p1 5 (fun r17 w17 => Post r17 w17))) ∧ (¬ p2 = nI 4 → (wp_X9_of (sI w2 15 0 2) p1 6 (fun r18 w18 => Post r18 w18))))))))))))) ∧ (¬ (gI (sI w2 15 0 2) 15 0) ≤ 0 → (Post 0 (sI w2 15 0 2))))) ∧ (¬ r2 = 0 → (((gI (sI w2 15 0 0) 15 0) ≤ 0 → ((p2 = nI 0 → (wp_X9_of (sI w2 15 0 0) p1 0 (fun r3 w3 => Post r3 w3))) ∧ (¬ p2 = nI 0 → ((p2 = nI 1 → (wp_X9_of (sI w2 15 0 0) p1 1 (fun r4 w4 => Post r4 w4))) ∧ (¬ p2 = nI 1 → ((p2 = nI 2 → (wp_X9_of (sI w2 15 0 0) p1 1 (fun r5 w5 => wp_X9_of w5 p1 2 (fun r6 w6 => wp_X9_bits w6 r6 (fun r7 w7 => Post (r5 - r7) w7))))) ∧ (¬ p2 = nI 2 → ((p2 = nI 3 → (wp_X9_worthOf (sI w2 15 0 0) p1 (fun r8 w8 => Post r8 w8))) ∧ (¬ p2 = nI 3 → ((p2 = nI 4 → (wp_X9_of (sI w2 15 0 0) p1 5 (fun r9 w9 => Post r9 w9))) ∧ (¬ p2 = nI 4 → (wp_X9_of (sI w2 15 0 0) p1 6 (fun r10 w10 => Post r10 w10))))))))))))) ∧ (¬ (gI (sI w2 15 0 0) 15 0) ≤ 0 → (Post 0 (sI w2 15 0 0)))))))))
set_option maxHeartbeats 4000000 in
set_option maxRecDepth 100000 in
theorem mt_X9_ladder (l : Launch) {E : En} (hI : Inj E) (hF : ∀ o, (15 ≤ o ∧ o < 25) → o ∈ eL E) (w : Wd) (p1 : Int32) (p2 : Int32) {Post : Int32 → Wd → Prop} (h : wp_X9_ladder w p1 p2 Post) : MI l E yX9_ladder cX9_ladder 3 (some .int) 6 139 [.ref (eA E 15), .int p1, .int p2] w Post := by
  refine MG.intro hI (by decide +kernel) (Nat.le_of_ble_eq_true rfl) ?_
  intro p e s m args below meth c Q C hr hlk hQ hw ls hl
  have hx := C.1
  have hb := C.2.1
  have hl : lv_has ls 3 [(0, .ref (eA E 15)), (1, .int p1), (2, .int p2)] := hl
  unfold wp_X9_ladder at h
  refine lv_aload_n hx hb dX9_ladder_0 rfl (lv_at hl 0 rfl) ?_
  refine lv_aload_n hx hb dX9_ladder_1 rfl (lv_at hl 0 rfl) ?_
  refine lv_iload_n hx hb dX9_ladder_2 rfl (lv_at hl 1 rfl) ?_
  refine done_i hw (my_runV (As := [.int p1]) (rest := [.ref (eA E 15)]) C hw 15 9 (hF 15 (by decide)) rfl rfl (mt_X9_isLadder l C.2.2.2.2.2.2.2 hF _ _ h) K_m_X9_197 K_i_X9_isLadder K_v_X9_isLadder K_n_X9 K_c_X9_isLadder hy_X9_isLadder ⟨Nat.le_of_ble_eq_true rfl, Nat.le_of_ble_eq_true rfl⟩ hl.1 rfl (Nat.le_of_ble_eq_true rfl) dX9_ladder_3 ⟨Nat.zero_le _, Nat.zero_le _⟩) (fun r1 w1 H locs h hw => ?_)
  refine lv_if_ne (tgt := 13) hx hb dX9_ladder_6 (by decide) (fun c1 => ?_) (fun c1 => ?_)
  · have h := h.2 c1
    refine lv_iload_n hx hb dX9_ladder_13 rfl (lv_at hl 2 rfl) ?_
    refine lv_iconst (v := 0) hx hb dX9_ladder_14 (by decide) ?_
    refine lv_iconst (v := 5) hx hb dX9_ladder_15 (by decide) ?_
    refine done_i hw (my_runS (As := [.int p2, .int 0, .int 5]) (rest := [.ref (eA E 15)]) C hw (mt_X9_within l C.2.2.2.2.2.2.2 hF _ _ _ _ h) K_m_X9_72 K_s_X9_within K_n_X9 K_c_X9_within hy_X9_within ⟨Nat.le_of_ble_eq_true rfl, Nat.le_of_ble_eq_true rfl⟩ hl.1 rfl (Nat.le_of_ble_eq_true rfl) dX9_ladder_16 ⟨Nat.zero_le _, Nat.zero_le _⟩) (fun r2 w2 H locs h hw => ?_)
    refine lv_if_ne (tgt := 26) hx hb dX9_ladder_19 (by decide) (fun c2 => ?_) (fun c2 => ?_)
    · have h := h.2 c2
      refine lv_iconst (v := 0) hx hb dX9_ladder_26 (by decide) ?_
      refine p9_0 C hw (hF 15 (by decide)) K_f_X9_45 dX9_ladder_27 (fun H locs hw => ?_)
      refine lv_aload_n hx hb dX9_ladder_30 rfl (lv_at hl 0 rfl) ?_
      refine g9_0 C hw (hF 15 (by decide)) K_f_X9_45 dX9_ladder_31 ?_
      refine lv_if_le (tgt := 39) hx hb dX9_ladder_34 (by decide) (fun c3 => ?_) (fun c3 => ?_)
      · have h := h.1 c3
        refine lv_iload_n hx hb dX9_ladder_39 rfl (lv_at hl 2 rfl) ?_
        by_cases c4 : p2 = nI 0
        · have h := h.1 c4
          obtain ⟨s1, s2, s3⟩ := sw_in (hi := 4) c4 (by decide) (by decide)
          refine lv_tableIn (tgt := 76) hx hb dX9_ladder_40 s1 s2 (by rw [s3]; rfl) (by decide) ?_
          refine lv_aload_n hx hb dX9_ladder_76 rfl (lv_at hl 0 rfl) ?_
          refine lv_iload_n hx hb dX9_ladder_77 rfl (lv_at hl 1 rfl) ?_
          refine lv_iconst (v := 0) hx hb dX9_ladder_78 (by decide) ?_
          refine done_i hw (my_runV (As := [.int p1, .int 0]) (rest := []) C hw 15 9 (hF 15 (by decide)) rfl rfl (mt_X9_of l C.2.2.2.2.2.2.2 hF _ _ _ h) K_m_X9_173 K_i_X9_of K_v_X9_of K_n_X9 K_c_X9_of hy_X9_of ⟨Nat.le_of_ble_eq_true rfl, Nat.le_of_ble_eq_true rfl⟩ hl.1 rfl (Nat.le_of_ble_eq_true rfl) dX9_ladder_79 ⟨Nat.zero_le _, Nat.zero_le _⟩) (fun r3 w3 H locs h hw => ?_)
          rw [hQ]
          exact ret_i C hr hlk hw h dX9_ladder_82
        · have h := h.2 c4
          by_cases c5 : p2 = nI 1
          · have h := h.1 c5
            obtain ⟨s1, s2, s3⟩ := sw_in (hi := 4) c5 (by decide) (by decide)
            refine lv_tableIn (tgt := 83) hx hb dX9_ladder_40 s1 s2 (by rw [s3]; rfl) (by decide) ?_
            refine lv_aload_n hx hb dX9_ladder_83 rfl (lv_at hl 0 rfl) ?_
            refine lv_iload_n hx hb dX9_ladder_84 rfl (lv_at hl 1 rfl) ?_
            refine lv_iconst (v := 1) hx hb dX9_ladder_85 (by decide) ?_
            refine done_i hw (my_runV (As := [.int p1, .int 1]) (rest := []) C hw 15 9 (hF 15 (by decide)) rfl rfl (mt_X9_of l C.2.2.2.2.2.2.2 hF _ _ _ h) K_m_X9_173 K_i_X9_of K_v_X9_of K_n_X9 K_c_X9_of hy_X9_of ⟨Nat.le_of_ble_eq_true rfl, Nat.le_of_ble_eq_true rfl⟩ hl.1 rfl (Nat.le_of_ble_eq_true rfl) dX9_ladder_86 ⟨Nat.zero_le _, Nat.zero_le _⟩) (fun r4 w4 H locs h hw => ?_)
            rw [hQ]
            exact ret_i C hr hlk hw h dX9_ladder_89
          · have h := h.2 c5
            by_cases c6 : p2 = nI 2
            · have h := h.1 c6
              obtain ⟨s1, s2, s3⟩ := sw_in (hi := 4) c6 (by decide) (by decide)
              refine lv_tableIn (tgt := 90) hx hb dX9_ladder_40 s1 s2 (by rw [s3]; rfl) (by decide) ?_
              refine lv_aload_n hx hb dX9_ladder_90 rfl (lv_at hl 0 rfl) ?_
              refine lv_iload_n hx hb dX9_ladder_91 rfl (lv_at hl 1 rfl) ?_
              refine lv_iconst (v := 1) hx hb dX9_ladder_92 (by decide) ?_
              refine done_i hw (my_runV (As := [.int p1, .int 1]) (rest := []) C hw 15 9 (hF 15 (by decide)) rfl rfl (mt_X9_of l C.2.2.2.2.2.2.2 hF _ _ _ h) K_m_X9_173 K_i_X9_of K_v_X9_of K_n_X9 K_c_X9_of hy_X9_of ⟨Nat.le_of_ble_eq_true rfl, Nat.le_of_ble_eq_true rfl⟩ hl.1 rfl (Nat.le_of_ble_eq_true rfl) dX9_ladder_93 ⟨Nat.zero_le _, Nat.zero_le _⟩) (fun r5 w5 H locs h hw => ?_)
              refine lv_aload_n hx hb dX9_ladder_96 rfl (lv_at hl 0 rfl) ?_
              refine lv_iload_n hx hb dX9_ladder_97 rfl (lv_at hl 1 rfl) ?_
              refine lv_iconst (v := 2) hx hb dX9_ladder_98 (by decide) ?_
              refine done_i hw (my_runV (As := [.int p1, .int 2]) (rest := [.int r5]) C hw 15 9 (hF 15 (by decide)) rfl rfl (mt_X9_of l C.2.2.2.2.2.2.2 hF _ _ _ h) K_m_X9_173 K_i_X9_of K_v_X9_of K_n_X9 K_c_X9_of hy_X9_of ⟨Nat.le_of_ble_eq_true rfl, Nat.le_of_ble_eq_true rfl⟩ hl.1 rfl (Nat.le_of_ble_eq_true rfl) dX9_ladder_99 ⟨Nat.zero_le _, Nat.zero_le _⟩) (fun r6 w6 H locs h hw => ?_)
              refine done_i hw (my_runS (As := [.int r6]) (rest := [.int r5]) C hw (mt_X9_bits l C.2.2.2.2.2.2.2 hF _ _ h) K_m_X9_128 K_s_X9_bits K_n_X9 K_c_X9_bits hy_X9_bits ⟨Nat.le_of_ble_eq_true rfl, Nat.le_of_ble_eq_true rfl⟩ hl.1 rfl (Nat.le_of_ble_eq_true rfl) dX9_ladder_102 ⟨Nat.zero_le _, Nat.zero_le _⟩) (fun r7 w7 H locs h hw => ?_)
              refine lv_isub hx hb dX9_ladder_105 ?_
              rw [hQ]
              exact ret_i C hr hlk hw h dX9_ladder_106
            · have h := h.2 c6
              by_cases c7 : p2 = nI 3
              · have h := h.1 c7
                obtain ⟨s1, s2, s3⟩ := sw_in (hi := 4) c7 (by decide) (by decide)
                refine lv_tableIn (tgt := 107) hx hb dX9_ladder_40 s1 s2 (by rw [s3]; rfl) (by decide) ?_
                refine lv_aload_n hx hb dX9_ladder_107 rfl (lv_at hl 0 rfl) ?_
                refine lv_iload_n hx hb dX9_ladder_108 rfl (lv_at hl 1 rfl) ?_
                refine done_i hw (my_runV (As := [.int p1]) (rest := []) C hw 15 9 (hF 15 (by decide)) rfl rfl (mt_X9_worthOf l C.2.2.2.2.2.2.2 hF _ _ h) K_m_X9_187 K_i_X9_worthOf K_v_X9_worthOf K_n_X9 K_c_X9_worthOf hy_X9_worthOf ⟨Nat.le_of_ble_eq_true rfl, Nat.le_of_ble_eq_true rfl⟩ hl.1 rfl (Nat.le_of_ble_eq_true rfl) dX9_ladder_109 ⟨Nat.zero_le _, Nat.zero_le _⟩) (fun r8 w8 H locs h hw => ?_)
                rw [hQ]
                exact ret_i C hr hlk hw h dX9_ladder_112
              · have h := h.2 c7
                by_cases c8 : p2 = nI 4
                · have h := h.1 c8
                  obtain ⟨s1, s2, s3⟩ := sw_in (hi := 4) c8 (by decide) (by decide)
                  refine lv_tableIn (tgt := 113) hx hb dX9_ladder_40 s1 s2 (by rw [s3]; rfl) (by decide) ?_
                  refine lv_aload_n hx hb dX9_ladder_113 rfl (lv_at hl 0 rfl) ?_
                  refine lv_iload_n hx hb dX9_ladder_114 rfl (lv_at hl 1 rfl) ?_
                  refine lv_iconst (v := 5) hx hb dX9_ladder_115 (by decide) ?_
                  refine done_i hw (my_runV (As := [.int p1, .int 5]) (rest := []) C hw 15 9 (hF 15 (by decide)) rfl rfl (mt_X9_of l C.2.2.2.2.2.2.2 hF _ _ _ h) K_m_X9_173 K_i_X9_of K_v_X9_of K_n_X9 K_c_X9_of hy_X9_of ⟨Nat.le_of_ble_eq_true rfl, Nat.le_of_ble_eq_true rfl⟩ hl.1 rfl (Nat.le_of_ble_eq_true rfl) dX9_ladder_116 ⟨Nat.zero_le _, Nat.zero_le _⟩) (fun r9 w9 H locs h hw => ?_)
                  rw [hQ]
                  exact ret_i C hr hlk hw h dX9_ladder_119
                · have h := h.2 c8
                  refine lv_tableOut (tgt := 120) hx hb dX9_ladder_40 (sw_out (n := 5) (by decide) (fun j hj => by rcases (show j = 0 ∨ j = 1 ∨ j = 2 ∨ j = 3 ∨ j = 4 by omega) with rfl | rfl | rfl | rfl | rfl <;> assumption) (by decide)) (by decide) ?_
                  refine lv_aload_n hx hb dX9_ladder_120 rfl (lv_at hl 0 rfl) ?_
                  refine lv_iload_n hx hb dX9_ladder_121 rfl (lv_at hl 1 rfl) ?_
                  refine lv_bipush (v := 6) hx hb dX9_ladder_122 (by decide) ?_
                  refine done_i hw (my_runV (As := [.int p1, .int 6]) (rest := []) C hw 15 9 (hF 15 (by decide)) rfl rfl (mt_X9_of l C.2.2.2.2.2.2.2 hF _ _ _ h) K_m_X9_173 K_i_X9_of K_v_X9_of K_n_X9 K_c_X9_of hy_X9_of ⟨Nat.le_of_ble_eq_true rfl, Nat.le_of_ble_eq_true rfl⟩ hl.1 rfl (Nat.le_of_ble_eq_true rfl) dX9_ladder_124 ⟨Nat.zero_le _, Nat.zero_le _⟩) (fun r10 w10 H locs h hw => ?_)
                  rw [hQ]
                  exact ret_i C hr hlk hw h dX9_ladder_127
      · have h := h.2 c3
        refine lv_iconst (v := 0) hx hb dX9_ladder_37 (by decide) ?_
        rw [hQ]
        exact ret_i C hr hlk hw h dX9_ladder_38
    · have h := h.1 c2
      refine lv_iconst (v := 2) hx hb dX9_ladder_22 (by decide) ?_
      refine lv_goto (tgt := 27) hx hb dX9_ladder_23 (by decide) ?_
      refine p9_0 C hw (hF 15 (by decide)) K_f_X9_45 dX9_ladder_27 (fun H locs hw => ?_)
      refine lv_aload_n hx hb dX9_ladder_30 rfl (lv_at hl 0 rfl) ?_
      refine g9_0 C hw (hF 15 (by decide)) K_f_X9_45 dX9_ladder_31 ?_
      refine lv_if_le (tgt := 39) hx hb dX9_ladder_34 (by decide) (fun c9 => ?_) (fun c9 => ?_)
      · have h := h.1 c9
        refine lv_iload_n hx hb dX9_ladder_39 rfl (lv_at hl 2 rfl) ?_
        by_cases c10 : p2 = nI 0
        · have h := h.1 c10
          obtain ⟨s1, s2, s3⟩ := sw_in (hi := 4) c10 (by decide) (by decide)
          refine lv_tableIn (tgt := 76) hx hb dX9_ladder_40 s1 s2 (by rw [s3]; rfl) (by decide) ?_
          refine lv_aload_n hx hb dX9_ladder_76 rfl (lv_at hl 0 rfl) ?_
          refine lv_iload_n hx hb dX9_ladder_77 rfl (lv_at hl 1 rfl) ?_
          refine lv_iconst (v := 0) hx hb dX9_ladder_78 (by decide) ?_
          refine done_i hw (my_runV (As := [.int p1, .int 0]) (rest := []) C hw 15 9 (hF 15 (by decide)) rfl rfl (mt_X9_of l C.2.2.2.2.2.2.2 hF _ _ _ h) K_m_X9_173 K_i_X9_of K_v_X9_of K_n_X9 K_c_X9_of hy_X9_of ⟨Nat.le_of_ble_eq_true rfl, Nat.le_of_ble_eq_true rfl⟩ hl.1 rfl (Nat.le_of_ble_eq_true rfl) dX9_ladder_79 ⟨Nat.zero_le _, Nat.zero_le _⟩) (fun r11 w11 H locs h hw => ?_)
          rw [hQ]
          exact ret_i C hr hlk hw h dX9_ladder_82
        · have h := h.2 c10
          by_cases c11 : p2 = nI 1
          · have h := h.1 c11
            obtain ⟨s1, s2, s3⟩ := sw_in (hi := 4) c11 (by decide) (by decide)
            refine lv_tableIn (tgt := 83) hx hb dX9_ladder_40 s1 s2 (by rw [s3]; rfl) (by decide) ?_
            refine lv_aload_n hx hb dX9_ladder_83 rfl (lv_at hl 0 rfl) ?_
            refine lv_iload_n hx hb dX9_ladder_84 rfl (lv_at hl 1 rfl) ?_
            refine lv_iconst (v := 1) hx hb dX9_ladder_85 (by decide) ?_
            refine done_i hw (my_runV (As := [.int p1, .int 1]) (rest := []) C hw 15 9 (hF 15 (by decide)) rfl rfl (mt_X9_of l C.2.2.2.2.2.2.2 hF _ _ _ h) K_m_X9_173 K_i_X9_of K_v_X9_of K_n_X9 K_c_X9_of hy_X9_of ⟨Nat.le_of_ble_eq_true rfl, Nat.le_of_ble_eq_true rfl⟩ hl.1 rfl (Nat.le_of_ble_eq_true rfl) dX9_ladder_86 ⟨Nat.zero_le _, Nat.zero_le _⟩) (fun r12 w12 H locs h hw => ?_)
            rw [hQ]
            exact ret_i C hr hlk hw h dX9_ladder_89
          · have h := h.2 c11
            by_cases c12 : p2 = nI 2
            · have h := h.1 c12
              obtain ⟨s1, s2, s3⟩ := sw_in (hi := 4) c12 (by decide) (by decide)
              refine lv_tableIn (tgt := 90) hx hb dX9_ladder_40 s1 s2 (by rw [s3]; rfl) (by decide) ?_
              refine lv_aload_n hx hb dX9_ladder_90 rfl (lv_at hl 0 rfl) ?_
              refine lv_iload_n hx hb dX9_ladder_91 rfl (lv_at hl 1 rfl) ?_
              refine lv_iconst (v := 1) hx hb dX9_ladder_92 (by decide) ?_
              refine done_i hw (my_runV (As := [.int p1, .int 1]) (rest := []) C hw 15 9 (hF 15 (by decide)) rfl rfl (mt_X9_of l C.2.2.2.2.2.2.2 hF _ _ _ h) K_m_X9_173 K_i_X9_of K_v_X9_of K_n_X9 K_c_X9_of hy_X9_of ⟨Nat.le_of_ble_eq_true rfl, Nat.le_of_ble_eq_true rfl⟩ hl.1 rfl (Nat.le_of_ble_eq_true rfl) dX9_ladder_93 ⟨Nat.zero_le _, Nat.zero_le _⟩) (fun r13 w13 H locs h hw => ?_)
              refine lv_aload_n hx hb dX9_ladder_96 rfl (lv_at hl 0 rfl) ?_
              refine lv_iload_n hx hb dX9_ladder_97 rfl (lv_at hl 1 rfl) ?_
              refine lv_iconst (v := 2) hx hb dX9_ladder_98 (by decide) ?_
              refine done_i hw (my_runV (As := [.int p1, .int 2]) (rest := [.int r13]) C hw 15 9 (hF 15 (by decide)) rfl rfl (mt_X9_of l C.2.2.2.2.2.2.2 hF _ _ _ h) K_m_X9_173 K_i_X9_of K_v_X9_of K_n_X9 K_c_X9_of hy_X9_of ⟨Nat.le_of_ble_eq_true rfl, Nat.le_of_ble_eq_true rfl⟩ hl.1 rfl (Nat.le_of_ble_eq_true rfl) dX9_ladder_99 ⟨Nat.zero_le _, Nat.zero_le _⟩) (fun r14 w14 H locs h hw => ?_)
              refine done_i hw (my_runS (As := [.int r14]) (rest := [.int r13]) C hw (mt_X9_bits l C.2.2.2.2.2.2.2 hF _ _ h) K_m_X9_128 K_s_X9_bits K_n_X9 K_c_X9_bits hy_X9_bits ⟨Nat.le_of_ble_eq_true rfl, Nat.le_of_ble_eq_true rfl⟩ hl.1 rfl (Nat.le_of_ble_eq_true rfl) dX9_ladder_102 ⟨Nat.zero_le _, Nat.zero_le _⟩) (fun r15 w15 H locs h hw => ?_)
              refine lv_isub hx hb dX9_ladder_105 ?_
              rw [hQ]
              exact ret_i C hr hlk hw h dX9_ladder_106
            · have h := h.2 c12
              by_cases c13 : p2 = nI 3
              · have h := h.1 c13
                obtain ⟨s1, s2, s3⟩ := sw_in (hi := 4) c13 (by decide) (by decide)
                refine lv_tableIn (tgt := 107) hx hb dX9_ladder_40 s1 s2 (by rw [s3]; rfl) (by decide) ?_
                refine lv_aload_n hx hb dX9_ladder_107 rfl (lv_at hl 0 rfl) ?_
                refine lv_iload_n hx hb dX9_ladder_108 rfl (lv_at hl 1 rfl) ?_
                refine done_i hw (my_runV (As := [.int p1]) (rest := []) C hw 15 9 (hF 15 (by decide)) rfl rfl (mt_X9_worthOf l C.2.2.2.2.2.2.2 hF _ _ h) K_m_X9_187 K_i_X9_worthOf K_v_X9_worthOf K_n_X9 K_c_X9_worthOf hy_X9_worthOf ⟨Nat.le_of_ble_eq_true rfl, Nat.le_of_ble_eq_true rfl⟩ hl.1 rfl (Nat.le_of_ble_eq_true rfl) dX9_ladder_109 ⟨Nat.zero_le _, Nat.zero_le _⟩) (fun r16 w16 H locs h hw => ?_)
                rw [hQ]
                exact ret_i C hr hlk hw h dX9_ladder_112
              · have h := h.2 c13
                by_cases c14 : p2 = nI 4
                · have h := h.1 c14
                  obtain ⟨s1, s2, s3⟩ := sw_in (hi := 4) c14 (by decide) (by decide)
                  refine lv_tableIn (tgt := 113) hx hb dX9_ladder_40 s1 s2 (by rw [s3]; rfl) (by decide) ?_
                  refine lv_aload_n hx hb dX9_ladder_113 rfl (lv_at hl 0 rfl) ?_
                  refine lv_iload_n hx hb dX9_ladder_114 rfl (lv_at hl 1 rfl) ?_
                  refine lv_iconst (v := 5) hx hb dX9_ladder_115 (by decide) ?_
                  refine done_i hw (my_runV (As := [.int p1, .int 5]) (rest := []) C hw 15 9 (hF 15 (by decide)) rfl rfl (mt_X9_of l C.2.2.2.2.2.2.2 hF _ _ _ h) K_m_X9_173 K_i_X9_of K_v_X9_of K_n_X9 K_c_X9_of hy_X9_of ⟨Nat.le_of_ble_eq_true rfl, Nat.le_of_ble_eq_true rfl⟩ hl.1 rfl (Nat.le_of_ble_eq_true rfl) dX9_ladder_116 ⟨Nat.zero_le _, Nat.zero_le _⟩) (fun r17 w17 H locs h hw => ?_)
                  rw [hQ]
                  exact ret_i C hr hlk hw h dX9_ladder_119
                · have h := h.2 c14
                  refine lv_tableOut (tgt := 120) hx hb dX9_ladder_40 (sw_out (n := 5) (by decide) (fun j hj => by rcases (show j = 0 ∨ j = 1 ∨ j = 2 ∨ j = 3 ∨ j = 4 by omega) with rfl | rfl | rfl | rfl | rfl <;> assumption) (by decide)) (by decide) ?_
                  refine lv_aload_n hx hb dX9_ladder_120 rfl (lv_at hl 0 rfl) ?_
                  refine lv_iload_n hx hb dX9_ladder_121 rfl (lv_at hl 1 rfl) ?_
                  refine lv_bipush (v := 6) hx hb dX9_ladder_122 (by decide) ?_
                  refine done_i hw (my_runV (As := [.int p1, .int 6]) (rest := []) C hw 15 9 (hF 15 (by decide)) rfl rfl (mt_X9_of l C.2.2.2.2.2.2.2 hF _ _ _ h) K_m_X9_173 K_i_X9_of K_v_X9_of K_n_X9 K_c_X9_of hy_X9_of ⟨Nat.le_of_ble_eq_true rfl, Nat.le_of_ble_eq_true rfl⟩ hl.1 rfl (Nat.le_of_ble_eq_true rfl) dX9_ladder_124 ⟨Nat.zero_le _, Nat.zero_le _⟩) (fun r18 w18 H locs h hw => ?_)
                  rw [hQ]
                  exact ret_i C hr hlk hw h dX9_ladder_127
      · have h := h.2 c9
        refine lv_iconst (v := 0) hx hb dX9_ladder_37 (by decide) ?_
        rw [hQ]
        exact ret_i C hr hlk hw h dX9_ladder_38
  · have h := h.1 c1
    refine lv_iconst (v := 1) hx hb dX9_ladder_9 (by decide) ?_
    refine lv_goto (tgt := 27) hx hb dX9_ladder_10 (by decide) ?_
    refine p9_0 C hw (hF 15 (by decide)) K_f_X9_45 dX9_ladder_27 (fun H locs hw => ?_)
    refine lv_aload_n hx hb dX9_ladder_30 rfl (lv_at hl 0 rfl) ?_
    refine g9_0 C hw (hF 15 (by decide)) K_f_X9_45 dX9_ladder_31 ?_
    refine lv_if_le (tgt := 39) hx hb dX9_ladder_34 (by decide) (fun c15 => ?_) (fun c15 => ?_)
    · have h := h.1 c15
      refine lv_iload_n hx hb dX9_ladder_39 rfl (lv_at hl 2 rfl) ?_
      by_cases c16 : p2 = nI 0
      · have h := h.1 c16
        obtain ⟨s1, s2, s3⟩ := sw_in (hi := 4) c16 (by decide) (by decide)
        refine lv_tableIn (tgt := 76) hx hb dX9_ladder_40 s1 s2 (by rw [s3]; rfl) (by decide) ?_
        refine lv_aload_n hx hb dX9_ladder_76 rfl (lv_at hl 0 rfl) ?_
        refine lv_iload_n hx hb dX9_ladder_77 rfl (lv_at hl 1 rfl) ?_
        refine lv_iconst (v := 0) hx hb dX9_ladder_78 (by decide) ?_
        refine done_i hw (my_runV (As := [.int p1, .int 0]) (rest := []) C hw 15 9 (hF 15 (by decide)) rfl rfl (mt_X9_of l C.2.2.2.2.2.2.2 hF _ _ _ h) K_m_X9_173 K_i_X9_of K_v_X9_of K_n_X9 K_c_X9_of hy_X9_of ⟨Nat.le_of_ble_eq_true rfl, Nat.le_of_ble_eq_true rfl⟩ hl.1 rfl (Nat.le_of_ble_eq_true rfl) dX9_ladder_79 ⟨Nat.zero_le _, Nat.zero_le _⟩) (fun r19 w19 H locs h hw => ?_)
        rw [hQ]
        exact ret_i C hr hlk hw h dX9_ladder_82
      · have h := h.2 c16
        by_cases c17 : p2 = nI 1
        · have h := h.1 c17
          obtain ⟨s1, s2, s3⟩ := sw_in (hi := 4) c17 (by decide) (by decide)
          refine lv_tableIn (tgt := 83) hx hb dX9_ladder_40 s1 s2 (by rw [s3]; rfl) (by decide) ?_
          refine lv_aload_n hx hb dX9_ladder_83 rfl (lv_at hl 0 rfl) ?_
          refine lv_iload_n hx hb dX9_ladder_84 rfl (lv_at hl 1 rfl) ?_
          refine lv_iconst (v := 1) hx hb dX9_ladder_85 (by decide) ?_
          refine done_i hw (my_runV (As := [.int p1, .int 1]) (rest := []) C hw 15 9 (hF 15 (by decide)) rfl rfl (mt_X9_of l C.2.2.2.2.2.2.2 hF _ _ _ h) K_m_X9_173 K_i_X9_of K_v_X9_of K_n_X9 K_c_X9_of hy_X9_of ⟨Nat.le_of_ble_eq_true rfl, Nat.le_of_ble_eq_true rfl⟩ hl.1 rfl (Nat.le_of_ble_eq_true rfl) dX9_ladder_86 ⟨Nat.zero_le _, Nat.zero_le _⟩) (fun r20 w20 H locs h hw => ?_)
          rw [hQ]
          exact ret_i C hr hlk hw h dX9_ladder_89
        · have h := h.2 c17
          by_cases c18 : p2 = nI 2
          · have h := h.1 c18
            obtain ⟨s1, s2, s3⟩ := sw_in (hi := 4) c18 (by decide) (by decide)
            refine lv_tableIn (tgt := 90) hx hb dX9_ladder_40 s1 s2 (by rw [s3]; rfl) (by decide) ?_
            refine lv_aload_n hx hb dX9_ladder_90 rfl (lv_at hl 0 rfl) ?_
            refine lv_iload_n hx hb dX9_ladder_91 rfl (lv_at hl 1 rfl) ?_
            refine lv_iconst (v := 1) hx hb dX9_ladder_92 (by decide) ?_
            refine done_i hw (my_runV (As := [.int p1, .int 1]) (rest := []) C hw 15 9 (hF 15 (by decide)) rfl rfl (mt_X9_of l C.2.2.2.2.2.2.2 hF _ _ _ h) K_m_X9_173 K_i_X9_of K_v_X9_of K_n_X9 K_c_X9_of hy_X9_of ⟨Nat.le_of_ble_eq_true rfl, Nat.le_of_ble_eq_true rfl⟩ hl.1 rfl (Nat.le_of_ble_eq_true rfl) dX9_ladder_93 ⟨Nat.zero_le _, Nat.zero_le _⟩) (fun r21 w21 H locs h hw => ?_)
            refine lv_aload_n hx hb dX9_ladder_96 rfl (lv_at hl 0 rfl) ?_
            refine lv_iload_n hx hb dX9_ladder_97 rfl (lv_at hl 1 rfl) ?_
            refine lv_iconst (v := 2) hx hb dX9_ladder_98 (by decide) ?_
            refine done_i hw (my_runV (As := [.int p1, .int 2]) (rest := [.int r21]) C hw 15 9 (hF 15 (by decide)) rfl rfl (mt_X9_of l C.2.2.2.2.2.2.2 hF _ _ _ h) K_m_X9_173 K_i_X9_of K_v_X9_of K_n_X9 K_c_X9_of hy_X9_of ⟨Nat.le_of_ble_eq_true rfl, Nat.le_of_ble_eq_true rfl⟩ hl.1 rfl (Nat.le_of_ble_eq_true rfl) dX9_ladder_99 ⟨Nat.zero_le _, Nat.zero_le _⟩) (fun r22 w22 H locs h hw => ?_)
            refine done_i hw (my_runS (As := [.int r22]) (rest := [.int r21]) C hw (mt_X9_bits l C.2.2.2.2.2.2.2 hF _ _ h) K_m_X9_128 K_s_X9_bits K_n_X9 K_c_X9_bits hy_X9_bits ⟨Nat.le_of_ble_eq_true rfl, Nat.le_of_ble_eq_true rfl⟩ hl.1 rfl (Nat.le_of_ble_eq_true rfl) dX9_ladder_102 ⟨Nat.zero_le _, Nat.zero_le _⟩) (fun r23 w23 H locs h hw => ?_)
            refine lv_isub hx hb dX9_ladder_105 ?_
            rw [hQ]
            exact ret_i C hr hlk hw h dX9_ladder_106
          · have h := h.2 c18
            by_cases c19 : p2 = nI 3
            · have h := h.1 c19
              obtain ⟨s1, s2, s3⟩ := sw_in (hi := 4) c19 (by decide) (by decide)
              refine lv_tableIn (tgt := 107) hx hb dX9_ladder_40 s1 s2 (by rw [s3]; rfl) (by decide) ?_
              refine lv_aload_n hx hb dX9_ladder_107 rfl (lv_at hl 0 rfl) ?_
              refine lv_iload_n hx hb dX9_ladder_108 rfl (lv_at hl 1 rfl) ?_
              refine done_i hw (my_runV (As := [.int p1]) (rest := []) C hw 15 9 (hF 15 (by decide)) rfl rfl (mt_X9_worthOf l C.2.2.2.2.2.2.2 hF _ _ h) K_m_X9_187 K_i_X9_worthOf K_v_X9_worthOf K_n_X9 K_c_X9_worthOf hy_X9_worthOf ⟨Nat.le_of_ble_eq_true rfl, Nat.le_of_ble_eq_true rfl⟩ hl.1 rfl (Nat.le_of_ble_eq_true rfl) dX9_ladder_109 ⟨Nat.zero_le _, Nat.zero_le _⟩) (fun r24 w24 H locs h hw => ?_)
              rw [hQ]
              exact ret_i C hr hlk hw h dX9_ladder_112
            · have h := h.2 c19
              by_cases c20 : p2 = nI 4
              · have h := h.1 c20
                obtain ⟨s1, s2, s3⟩ := sw_in (hi := 4) c20 (by decide) (by decide)
                refine lv_tableIn (tgt := 113) hx hb dX9_ladder_40 s1 s2 (by rw [s3]; rfl) (by decide) ?_
                refine lv_aload_n hx hb dX9_ladder_113 rfl (lv_at hl 0 rfl) ?_
                refine lv_iload_n hx hb dX9_ladder_114 rfl (lv_at hl 1 rfl) ?_
                refine lv_iconst (v := 5) hx hb dX9_ladder_115 (by decide) ?_
                refine done_i hw (my_runV (As := [.int p1, .int 5]) (rest := []) C hw 15 9 (hF 15 (by decide)) rfl rfl (mt_X9_of l C.2.2.2.2.2.2.2 hF _ _ _ h) K_m_X9_173 K_i_X9_of K_v_X9_of K_n_X9 K_c_X9_of hy_X9_of ⟨Nat.le_of_ble_eq_true rfl, Nat.le_of_ble_eq_true rfl⟩ hl.1 rfl (Nat.le_of_ble_eq_true rfl) dX9_ladder_116 ⟨Nat.zero_le _, Nat.zero_le _⟩) (fun r25 w25 H locs h hw => ?_)
                rw [hQ]
                exact ret_i C hr hlk hw h dX9_ladder_119
              · have h := h.2 c20
                refine lv_tableOut (tgt := 120) hx hb dX9_ladder_40 (sw_out (n := 5) (by decide) (fun j hj => by rcases (show j = 0 ∨ j = 1 ∨ j = 2 ∨ j = 3 ∨ j = 4 by omega) with rfl | rfl | rfl | rfl | rfl <;> assumption) (by decide)) (by decide) ?_
                refine lv_aload_n hx hb dX9_ladder_120 rfl (lv_at hl 0 rfl) ?_
                refine lv_iload_n hx hb dX9_ladder_121 rfl (lv_at hl 1 rfl) ?_
                refine lv_bipush (v := 6) hx hb dX9_ladder_122 (by decide) ?_
                refine done_i hw (my_runV (As := [.int p1, .int 6]) (rest := []) C hw 15 9 (hF 15 (by decide)) rfl rfl (mt_X9_of l C.2.2.2.2.2.2.2 hF _ _ _ h) K_m_X9_173 K_i_X9_of K_v_X9_of K_n_X9 K_c_X9_of hy_X9_of ⟨Nat.le_of_ble_eq_true rfl, Nat.le_of_ble_eq_true rfl⟩ hl.1 rfl (Nat.le_of_ble_eq_true rfl) dX9_ladder_124 ⟨Nat.zero_le _, Nat.zero_le _⟩) (fun r26 w26 H locs h hw => ?_)
                rw [hQ]
                exact ret_i C hr hlk hw h dX9_ladder_127
    · have h := h.2 c15
      refine lv_iconst (v := 0) hx hb dX9_ladder_37 (by decide) ?_
      rw [hQ]
      exact ret_i C hr hlk hw h dX9_ladder_38
theorem hy_X9_set : yX9_set.cls ≠ "java/lang/invoke/MethodHandle" ∧ yX9_set.cls ≠ "java/lang/invoke/VarHandle" ∧ (parseMethodDescriptor yX9_set.desc).map (fun d => d.parameters.length) = some 2 := by decide +kernel
def wp_X9_set (w : Wd) (p1 : Int32) (p2 : Int32) (Post : Int32 → Wd → Prop) : Prop :=
  wp_X9_isLadder w p1 (fun r1 w1 => (r1 = 0 → (((gI (sI w1 15 0 1) 15 0) = 0 → (wp_X9_of (sI w1 15 0 1) p1 (2 + p2) (fun r5 w5 => Post r5 w5))) ∧ (¬ (gI (sI w1 15 0 1) 15 0) = 0 → (Post 0 (sI w1 15 0 1))))) ∧ (¬ r1 = 0 → (wp_X9_within w1 p2 0 2 (fun r2 w2 => (r2 = 0 → (((gI (sI w2 15 0 2) 15 0) = 0 → (wp_X9_of (sI w2 15 0 2) p1 (2 + p2) (fun r4 w4 => Post r4 w4))) ∧ (¬ (gI (sI w2 15 0 2) 15 0) = 0 → (Post 0 (sI w2 15 0 2))))) ∧ (¬ r2 = 0 → (((gI (sI w2 15 0 0) 15 0) = 0 → (wp_X9_of (sI w2 15 0 0) p1 (2 + p2) (fun r3 w3 => Post r3 w3))) ∧ (¬ (gI (sI w2 15 0 0) 15 0) = 0 → (Post 0 (sI w2 15 0 0)))))))))
set_option maxHeartbeats 4000000 in
set_option maxRecDepth 100000 in
theorem mt_X9_set (l : Launch) {E : En} (hI : Inj E) (hF : ∀ o, (15 ≤ o ∧ o < 25) → o ∈ eL E) (w : Wd) (p1 : Int32) (p2 : Int32) {Post : Int32 → Wd → Prop} (h : wp_X9_set w p1 p2 Post) : MI l E yX9_set cX9_set 3 (some .int) 2 43 [.ref (eA E 15), .int p1, .int p2] w Post := by
  refine MG.intro hI (by decide +kernel) (Nat.le_of_ble_eq_true rfl) ?_
  intro p e s m args below meth c Q C hr hlk hQ hw ls hl
  have hx := C.1
  have hb := C.2.1
  have hl : lv_has ls 3 [(0, .ref (eA E 15)), (1, .int p1), (2, .int p2)] := hl
  unfold wp_X9_set at h
  refine lv_aload_n hx hb dX9_set_0 rfl (lv_at hl 0 rfl) ?_
  refine lv_aload_n hx hb dX9_set_1 rfl (lv_at hl 0 rfl) ?_
  refine lv_iload_n hx hb dX9_set_2 rfl (lv_at hl 1 rfl) ?_
  refine done_i hw (my_runV (As := [.int p1]) (rest := [.ref (eA E 15)]) C hw 15 9 (hF 15 (by decide)) rfl rfl (mt_X9_isLadder l C.2.2.2.2.2.2.2 hF _ _ h) K_m_X9_197 K_i_X9_isLadder K_v_X9_isLadder K_n_X9 K_c_X9_isLadder hy_X9_isLadder ⟨Nat.le_of_ble_eq_true rfl, Nat.le_of_ble_eq_true rfl⟩ hl.1 rfl (Nat.le_of_ble_eq_true rfl) dX9_set_3 ⟨Nat.zero_le _, Nat.zero_le _⟩) (fun r1 w1 H locs h hw => ?_)
  refine lv_if_ne (tgt := 13) hx hb dX9_set_6 (by decide) (fun c1 => ?_) (fun c1 => ?_)
  · have h := h.2 c1
    refine lv_iload_n hx hb dX9_set_13 rfl (lv_at hl 2 rfl) ?_
    refine lv_iconst (v := 0) hx hb dX9_set_14 (by decide) ?_
    refine lv_iconst (v := 2) hx hb dX9_set_15 (by decide) ?_
    refine done_i hw (my_runS (As := [.int p2, .int 0, .int 2]) (rest := [.ref (eA E 15)]) C hw (mt_X9_within l C.2.2.2.2.2.2.2 hF _ _ _ _ h) K_m_X9_72 K_s_X9_within K_n_X9 K_c_X9_within hy_X9_within ⟨Nat.le_of_ble_eq_true rfl, Nat.le_of_ble_eq_true rfl⟩ hl.1 rfl (Nat.le_of_ble_eq_true rfl) dX9_set_16 ⟨Nat.zero_le _, Nat.zero_le _⟩) (fun r2 w2 H locs h hw => ?_)
    refine lv_if_ne (tgt := 26) hx hb dX9_set_19 (by decide) (fun c2 => ?_) (fun c2 => ?_)
    · have h := h.2 c2
      refine lv_iconst (v := 0) hx hb dX9_set_26 (by decide) ?_
      refine p9_0 C hw (hF 15 (by decide)) K_f_X9_45 dX9_set_27 (fun H locs hw => ?_)
      refine lv_aload_n hx hb dX9_set_30 rfl (lv_at hl 0 rfl) ?_
      refine g9_0 C hw (hF 15 (by decide)) K_f_X9_45 dX9_set_31 ?_
      refine lv_if_ne (tgt := 48) hx hb dX9_set_34 (by decide) (fun c3 => ?_) (fun c3 => ?_)
      · have h := h.2 c3
        refine lv_iconst (v := 0) hx hb dX9_set_48 (by decide) ?_
        rw [hQ]
        exact ret_i C hr hlk hw h dX9_set_49
      · have h := h.1 c3
        refine lv_aload_n hx hb dX9_set_37 rfl (lv_at hl 0 rfl) ?_
        refine lv_iload_n hx hb dX9_set_38 rfl (lv_at hl 1 rfl) ?_
        refine lv_iconst (v := 2) hx hb dX9_set_39 (by decide) ?_
        refine lv_iload_n hx hb dX9_set_40 rfl (lv_at hl 2 rfl) ?_
        refine lv_iadd hx hb dX9_set_41 ?_
        refine done_i hw (my_runV (As := [.int p1, .int (2 + p2)]) (rest := []) C hw 15 9 (hF 15 (by decide)) rfl rfl (mt_X9_of l C.2.2.2.2.2.2.2 hF _ _ _ h) K_m_X9_173 K_i_X9_of K_v_X9_of K_n_X9 K_c_X9_of hy_X9_of ⟨Nat.le_of_ble_eq_true rfl, Nat.le_of_ble_eq_true rfl⟩ hl.1 rfl (Nat.le_of_ble_eq_true rfl) dX9_set_42 ⟨Nat.zero_le _, Nat.zero_le _⟩) (fun r3 w3 H locs h hw => ?_)
        refine lv_goto (tgt := 49) hx hb dX9_set_45 (by decide) ?_
        rw [hQ]
        exact ret_i C hr hlk hw h dX9_set_49
    · have h := h.1 c2
      refine lv_iconst (v := 2) hx hb dX9_set_22 (by decide) ?_
      refine lv_goto (tgt := 27) hx hb dX9_set_23 (by decide) ?_
      refine p9_0 C hw (hF 15 (by decide)) K_f_X9_45 dX9_set_27 (fun H locs hw => ?_)
      refine lv_aload_n hx hb dX9_set_30 rfl (lv_at hl 0 rfl) ?_
      refine g9_0 C hw (hF 15 (by decide)) K_f_X9_45 dX9_set_31 ?_
      refine lv_if_ne (tgt := 48) hx hb dX9_set_34 (by decide) (fun c4 => ?_) (fun c4 => ?_)
      · have h := h.2 c4
        refine lv_iconst (v := 0) hx hb dX9_set_48 (by decide) ?_
        rw [hQ]
        exact ret_i C hr hlk hw h dX9_set_49
      · have h := h.1 c4
        refine lv_aload_n hx hb dX9_set_37 rfl (lv_at hl 0 rfl) ?_
        refine lv_iload_n hx hb dX9_set_38 rfl (lv_at hl 1 rfl) ?_
        refine lv_iconst (v := 2) hx hb dX9_set_39 (by decide) ?_
        refine lv_iload_n hx hb dX9_set_40 rfl (lv_at hl 2 rfl) ?_
        refine lv_iadd hx hb dX9_set_41 ?_
        refine done_i hw (my_runV (As := [.int p1, .int (2 + p2)]) (rest := []) C hw 15 9 (hF 15 (by decide)) rfl rfl (mt_X9_of l C.2.2.2.2.2.2.2 hF _ _ _ h) K_m_X9_173 K_i_X9_of K_v_X9_of K_n_X9 K_c_X9_of hy_X9_of ⟨Nat.le_of_ble_eq_true rfl, Nat.le_of_ble_eq_true rfl⟩ hl.1 rfl (Nat.le_of_ble_eq_true rfl) dX9_set_42 ⟨Nat.zero_le _, Nat.zero_le _⟩) (fun r4 w4 H locs h hw => ?_)
        refine lv_goto (tgt := 49) hx hb dX9_set_45 (by decide) ?_
        rw [hQ]
        exact ret_i C hr hlk hw h dX9_set_49
  · have h := h.1 c1
    refine lv_iconst (v := 1) hx hb dX9_set_9 (by decide) ?_
    refine lv_goto (tgt := 27) hx hb dX9_set_10 (by decide) ?_
    refine p9_0 C hw (hF 15 (by decide)) K_f_X9_45 dX9_set_27 (fun H locs hw => ?_)
    refine lv_aload_n hx hb dX9_set_30 rfl (lv_at hl 0 rfl) ?_
    refine g9_0 C hw (hF 15 (by decide)) K_f_X9_45 dX9_set_31 ?_
    refine lv_if_ne (tgt := 48) hx hb dX9_set_34 (by decide) (fun c5 => ?_) (fun c5 => ?_)
    · have h := h.2 c5
      refine lv_iconst (v := 0) hx hb dX9_set_48 (by decide) ?_
      rw [hQ]
      exact ret_i C hr hlk hw h dX9_set_49
    · have h := h.1 c5
      refine lv_aload_n hx hb dX9_set_37 rfl (lv_at hl 0 rfl) ?_
      refine lv_iload_n hx hb dX9_set_38 rfl (lv_at hl 1 rfl) ?_
      refine lv_iconst (v := 2) hx hb dX9_set_39 (by decide) ?_
      refine lv_iload_n hx hb dX9_set_40 rfl (lv_at hl 2 rfl) ?_
      refine lv_iadd hx hb dX9_set_41 ?_
      refine done_i hw (my_runV (As := [.int p1, .int (2 + p2)]) (rest := []) C hw 15 9 (hF 15 (by decide)) rfl rfl (mt_X9_of l C.2.2.2.2.2.2.2 hF _ _ _ h) K_m_X9_173 K_i_X9_of K_v_X9_of K_n_X9 K_c_X9_of hy_X9_of ⟨Nat.le_of_ble_eq_true rfl, Nat.le_of_ble_eq_true rfl⟩ hl.1 rfl (Nat.le_of_ble_eq_true rfl) dX9_set_42 ⟨Nat.zero_le _, Nat.zero_le _⟩) (fun r5 w5 H locs h hw => ?_)
      refine lv_goto (tgt := 49) hx hb dX9_set_45 (by decide) ?_
      rw [hQ]
      exact ret_i C hr hlk hw h dX9_set_49
theorem hy_X9_player : yX9_player.cls ≠ "java/lang/invoke/MethodHandle" ∧ yX9_player.cls ≠ "java/lang/invoke/VarHandle" ∧ (parseMethodDescriptor yX9_player.desc).map (fun d => d.parameters.length) = some 2 := by decide +kernel
def wp_X9_player (w : Wd) (p1 : Int32) (p2 : Int32) (Post : Int32 → Wd → Prop) : Prop :=
  wp_X9_within w p1 0 1 (fun r1 w1 => (r1 = 0 → (((gI (sI w1 15 0 1) 15 0) = 0 → (vp_in ((43 + (6 * p1)) + p2) 140 ∧ (Post (gA (sI w1 15 0 1) 18 (((43 + (6 * p1)) + p2).toNatClampNeg)) (sI w1 15 0 1)))) ∧ (¬ (gI (sI w1 15 0 1) 15 0) = 0 → (Post 0 (sI w1 15 0 1))))) ∧ (¬ r1 = 0 → (wp_X9_within w1 p2 0 5 (fun r2 w2 => (r2 = 0 → (((gI (sI w2 15 0 2) 15 0) = 0 → (vp_in ((43 + (6 * p1)) + p2) 140 ∧ (Post (gA (sI w2 15 0 2) 18 (((43 + (6 * p1)) + p2).toNatClampNeg)) (sI w2 15 0 2)))) ∧ (¬ (gI (sI w2 15 0 2) 15 0) = 0 → (Post 0 (sI w2 15 0 2))))) ∧ (¬ r2 = 0 → (((gI (sI w2 15 0 0) 15 0) = 0 → (vp_in ((43 + (6 * p1)) + p2) 140 ∧ (Post (gA (sI w2 15 0 0) 18 (((43 + (6 * p1)) + p2).toNatClampNeg)) (sI w2 15 0 0)))) ∧ (¬ (gI (sI w2 15 0 0) 15 0) = 0 → (Post 0 (sI w2 15 0 0)))))))))
set_option maxHeartbeats 4000000 in
set_option maxRecDepth 100000 in
theorem mt_X9_player (l : Launch) {E : En} (hI : Inj E) (hF : ∀ o, (15 ≤ o ∧ o < 25) → o ∈ eL E) (w : Wd) (p1 : Int32) (p2 : Int32) {Post : Int32 → Wd → Prop} (h : wp_X9_player w p1 p2 Post) : MI l E yX9_player cX9_player 3 (some .int) 1 22 [.ref (eA E 15), .int p1, .int p2] w Post := by
  refine MG.intro hI (by decide +kernel) (Nat.le_of_ble_eq_true rfl) ?_
  intro p e s m args below meth c Q C hr hlk hQ hw ls hl
  have hx := C.1
  have hb := C.2.1
  have hl : lv_has ls 3 [(0, .ref (eA E 15)), (1, .int p1), (2, .int p2)] := hl
  unfold wp_X9_player at h
  refine lv_aload_n hx hb dX9_player_0 rfl (lv_at hl 0 rfl) ?_
  refine lv_iload_n hx hb dX9_player_1 rfl (lv_at hl 1 rfl) ?_
  refine lv_iconst (v := 0) hx hb dX9_player_2 (by decide) ?_
  refine lv_iconst (v := 1) hx hb dX9_player_3 (by decide) ?_
  refine done_i hw (my_runS (As := [.int p1, .int 0, .int 1]) (rest := [.ref (eA E 15)]) C hw (mt_X9_within l C.2.2.2.2.2.2.2 hF _ _ _ _ h) K_m_X9_72 K_s_X9_within K_n_X9 K_c_X9_within hy_X9_within ⟨Nat.le_of_ble_eq_true rfl, Nat.le_of_ble_eq_true rfl⟩ hl.1 rfl (Nat.le_of_ble_eq_true rfl) dX9_player_4 ⟨Nat.zero_le _, Nat.zero_le _⟩) (fun r1 w1 H locs h hw => ?_)
  refine lv_if_ne (tgt := 14) hx hb dX9_player_7 (by decide) (fun c1 => ?_) (fun c1 => ?_)
  · have h := h.2 c1
    refine lv_iload_n hx hb dX9_player_14 rfl (lv_at hl 2 rfl) ?_
    refine lv_iconst (v := 0) hx hb dX9_player_15 (by decide) ?_
    refine lv_iconst (v := 5) hx hb dX9_player_16 (by decide) ?_
    refine done_i hw (my_runS (As := [.int p2, .int 0, .int 5]) (rest := [.ref (eA E 15)]) C hw (mt_X9_within l C.2.2.2.2.2.2.2 hF _ _ _ _ h) K_m_X9_72 K_s_X9_within K_n_X9 K_c_X9_within hy_X9_within ⟨Nat.le_of_ble_eq_true rfl, Nat.le_of_ble_eq_true rfl⟩ hl.1 rfl (Nat.le_of_ble_eq_true rfl) dX9_player_17 ⟨Nat.zero_le _, Nat.zero_le _⟩) (fun r2 w2 H locs h hw => ?_)
    refine lv_if_ne (tgt := 27) hx hb dX9_player_20 (by decide) (fun c2 => ?_) (fun c2 => ?_)
    · have h := h.2 c2
      refine lv_iconst (v := 0) hx hb dX9_player_27 (by decide) ?_
      refine p9_0 C hw (hF 15 (by decide)) K_f_X9_45 dX9_player_28 (fun H locs hw => ?_)
      refine lv_aload_n hx hb dX9_player_31 rfl (lv_at hl 0 rfl) ?_
      refine g9_0 C hw (hF 15 (by decide)) K_f_X9_45 dX9_player_32 ?_
      refine lv_if_ne (tgt := 55) hx hb dX9_player_35 (by decide) (fun c3 => ?_) (fun c3 => ?_)
      · have h := h.2 c3
        refine lv_iconst (v := 0) hx hb dX9_player_55 (by decide) ?_
        rw [hQ]
        exact ret_i C hr hlk hw h dX9_player_56
      · have h := h.1 c3
        refine lv_aload_n hx hb dX9_player_38 rfl (lv_at hl 0 rfl) ?_
        refine g9_13 C hw (hF 15 (by decide)) K_f_X9_17 dX9_player_39 ?_
        refine lv_bipush (v := 43) hx hb dX9_player_42 (by decide) ?_
        refine lv_bipush (v := 6) hx hb dX9_player_44 (by decide) ?_
        refine lv_iload_n hx hb dX9_player_46 rfl (lv_at hl 1 rfl) ?_
        refine lv_imul hx hb dX9_player_47 ?_
        refine lv_iadd hx hb dX9_player_48 ?_
        refine lv_iload_n hx hb dX9_player_49 rfl (lv_at hl 2 rfl) ?_
        refine lv_iadd hx hb dX9_player_50 ?_
        obtain ⟨hi1, h⟩ := h
        refine r_iald C hw 18 140 (hF 18 (by decide)) rfl hi1 dX9_player_51 ?_
        refine lv_goto (tgt := 56) hx hb dX9_player_52 (by decide) ?_
        rw [hQ]
        exact ret_i C hr hlk hw h dX9_player_56
    · have h := h.1 c2
      refine lv_iconst (v := 2) hx hb dX9_player_23 (by decide) ?_
      refine lv_goto (tgt := 28) hx hb dX9_player_24 (by decide) ?_
      refine p9_0 C hw (hF 15 (by decide)) K_f_X9_45 dX9_player_28 (fun H locs hw => ?_)
      refine lv_aload_n hx hb dX9_player_31 rfl (lv_at hl 0 rfl) ?_
      refine g9_0 C hw (hF 15 (by decide)) K_f_X9_45 dX9_player_32 ?_
      refine lv_if_ne (tgt := 55) hx hb dX9_player_35 (by decide) (fun c4 => ?_) (fun c4 => ?_)
      · have h := h.2 c4
        refine lv_iconst (v := 0) hx hb dX9_player_55 (by decide) ?_
        rw [hQ]
        exact ret_i C hr hlk hw h dX9_player_56
      · have h := h.1 c4
        refine lv_aload_n hx hb dX9_player_38 rfl (lv_at hl 0 rfl) ?_
        refine g9_13 C hw (hF 15 (by decide)) K_f_X9_17 dX9_player_39 ?_
        refine lv_bipush (v := 43) hx hb dX9_player_42 (by decide) ?_
        refine lv_bipush (v := 6) hx hb dX9_player_44 (by decide) ?_
        refine lv_iload_n hx hb dX9_player_46 rfl (lv_at hl 1 rfl) ?_
        refine lv_imul hx hb dX9_player_47 ?_
        refine lv_iadd hx hb dX9_player_48 ?_
        refine lv_iload_n hx hb dX9_player_49 rfl (lv_at hl 2 rfl) ?_
        refine lv_iadd hx hb dX9_player_50 ?_
        obtain ⟨hi2, h⟩ := h
        refine r_iald C hw 18 140 (hF 18 (by decide)) rfl hi2 dX9_player_51 ?_
        refine lv_goto (tgt := 56) hx hb dX9_player_52 (by decide) ?_
        rw [hQ]
        exact ret_i C hr hlk hw h dX9_player_56
  · have h := h.1 c1
    refine lv_iconst (v := 1) hx hb dX9_player_10 (by decide) ?_
    refine lv_goto (tgt := 28) hx hb dX9_player_11 (by decide) ?_
    refine p9_0 C hw (hF 15 (by decide)) K_f_X9_45 dX9_player_28 (fun H locs hw => ?_)
    refine lv_aload_n hx hb dX9_player_31 rfl (lv_at hl 0 rfl) ?_
    refine g9_0 C hw (hF 15 (by decide)) K_f_X9_45 dX9_player_32 ?_
    refine lv_if_ne (tgt := 55) hx hb dX9_player_35 (by decide) (fun c5 => ?_) (fun c5 => ?_)
    · have h := h.2 c5
      refine lv_iconst (v := 0) hx hb dX9_player_55 (by decide) ?_
      rw [hQ]
      exact ret_i C hr hlk hw h dX9_player_56
    · have h := h.1 c5
      refine lv_aload_n hx hb dX9_player_38 rfl (lv_at hl 0 rfl) ?_
      refine g9_13 C hw (hF 15 (by decide)) K_f_X9_17 dX9_player_39 ?_
      refine lv_bipush (v := 43) hx hb dX9_player_42 (by decide) ?_
      refine lv_bipush (v := 6) hx hb dX9_player_44 (by decide) ?_
      refine lv_iload_n hx hb dX9_player_46 rfl (lv_at hl 1 rfl) ?_
      refine lv_imul hx hb dX9_player_47 ?_
      refine lv_iadd hx hb dX9_player_48 ?_
      refine lv_iload_n hx hb dX9_player_49 rfl (lv_at hl 2 rfl) ?_
      refine lv_iadd hx hb dX9_player_50 ?_
      obtain ⟨hi3, h⟩ := h
      refine r_iald C hw 18 140 (hF 18 (by decide)) rfl hi3 dX9_player_51 ?_
      refine lv_goto (tgt := 56) hx hb dX9_player_52 (by decide) ?_
      rw [hQ]
      exact ret_i C hr hlk hw h dX9_player_56
theorem hy_X9_act : yX9_act.cls ≠ "java/lang/invoke/MethodHandle" ∧ yX9_act.cls ≠ "java/lang/invoke/VarHandle" ∧ (parseMethodDescriptor yX9_act.desc).map (fun d => d.parameters.length) = some 2 := by decide +kernel
def wp_X9_act (w : Wd) (p1 : Int32) (p2 : Int32) (Post : Int32 → Wd → Prop) : Prop :=
  wp_X9_within w p2 0 4 (fun r1 w1 => (r1 = 0 → (((gI (sI w1 15 0 1) 15 0) ≤ 0 → ((16 ≤ (gA (sI w1 15 0 1) 18 56) → (wp_X9_within (sI w1 15 0 1) p1 0 (16 - 1) (fun r2 w2 => (r2 = 0 → (Post ((-1)) w2)) ∧ (¬ r2 = 0 → (vp_in ((60 + (5 * ((((gA w2 18 56) - 1) - p1) - (((gA w2 18 56) - 1) - p1) / 16 * 16))) + p2) 140 ∧ (Post (gA w2 18 (((60 + (5 * ((((gA w2 18 56) - 1) - p1) - (((gA w2 18 56) - 1) - p1) / 16 * 16))) + p2).toNatClampNeg)) w2)))))) ∧ (¬ 16 ≤ (gA (sI w1 15 0 1) 18 56) → (∀ y1 : Int32, y1 = gA (sI w1 15 0 1) 18 56 → (wp_X9_within (sI w1 15 0 1) p1 0 (y1 - 1) (fun r3 w3 => (r3 = 0 → (Post ((-1)) w3)) ∧ (¬ r3 = 0 → (vp_in ((60 + (5 * ((((gA w3 18 56) - 1) - p1) - (((gA w3 18 56) - 1) - p1) / 16 * 16))) + p2) 140 ∧ (Post (gA w3 18 (((60 + (5 * ((((gA w3 18 56) - 1) - p1) - (((gA w3 18 56) - 1) - p1) / 16 * 16))) + p2).toNatClampNeg)) w3))))))))) ∧ (¬ (gI (sI w1 15 0 1) 15 0) ≤ 0 → (Post 0 (sI w1 15 0 1))))) ∧ (¬ r1 = 0 → (((gI (sI w1 15 0 0) 15 0) ≤ 0 → ((16 ≤ (gA (sI w1 15 0 0) 18 56) → (wp_X9_within (sI w1 15 0 0) p1 0 (16 - 1) (fun r4 w4 => (r4 = 0 → (Post ((-1)) w4)) ∧ (¬ r4 = 0 → (vp_in ((60 + (5 * ((((gA w4 18 56) - 1) - p1) - (((gA w4 18 56) - 1) - p1) / 16 * 16))) + p2) 140 ∧ (Post (gA w4 18 (((60 + (5 * ((((gA w4 18 56) - 1) - p1) - (((gA w4 18 56) - 1) - p1) / 16 * 16))) + p2).toNatClampNeg)) w4)))))) ∧ (¬ 16 ≤ (gA (sI w1 15 0 0) 18 56) → (∀ y2 : Int32, y2 = gA (sI w1 15 0 0) 18 56 → (wp_X9_within (sI w1 15 0 0) p1 0 (y2 - 1) (fun r5 w5 => (r5 = 0 → (Post ((-1)) w5)) ∧ (¬ r5 = 0 → (vp_in ((60 + (5 * ((((gA w5 18 56) - 1) - p1) - (((gA w5 18 56) - 1) - p1) / 16 * 16))) + p2) 140 ∧ (Post (gA w5 18 (((60 + (5 * ((((gA w5 18 56) - 1) - p1) - (((gA w5 18 56) - 1) - p1) / 16 * 16))) + p2).toNatClampNeg)) w5))))))))) ∧ (¬ (gI (sI w1 15 0 0) 15 0) ≤ 0 → (Post 0 (sI w1 15 0 0))))))
set_option maxHeartbeats 4000000 in
set_option maxRecDepth 100000 in
theorem mt_X9_act (l : Launch) {E : En} (hI : Inj E) (hF : ∀ o, (15 ≤ o ∧ o < 25) → o ∈ eL E) (w : Wd) (p1 : Int32) (p2 : Int32) {Post : Int32 → Wd → Prop} (h : wp_X9_act w p1 p2 Post) : MI l E yX9_act cX9_act 4 (some .int) 1 22 [.ref (eA E 15), .int p1, .int p2] w Post := by
  refine MG.intro hI (by decide +kernel) (Nat.le_of_ble_eq_true rfl) ?_
  intro p e s m args below meth c Q C hr hlk hQ hw ls hl
  have hx := C.1
  have hb := C.2.1
  have hl : lv_has ls 4 [(0, .ref (eA E 15)), (1, .int p1), (2, .int p2)] := hl
  unfold wp_X9_act at h
  refine lv_aload_n hx hb dX9_act_0 rfl (lv_at hl 0 rfl) ?_
  refine lv_iload_n hx hb dX9_act_1 rfl (lv_at hl 2 rfl) ?_
  refine lv_iconst (v := 0) hx hb dX9_act_2 (by decide) ?_
  refine lv_iconst (v := 4) hx hb dX9_act_3 (by decide) ?_
  refine done_i hw (my_runS (As := [.int p2, .int 0, .int 4]) (rest := [.ref (eA E 15)]) C hw (mt_X9_within l C.2.2.2.2.2.2.2 hF _ _ _ _ h) K_m_X9_72 K_s_X9_within K_n_X9 K_c_X9_within hy_X9_within ⟨Nat.le_of_ble_eq_true rfl, Nat.le_of_ble_eq_true rfl⟩ hl.1 rfl (Nat.le_of_ble_eq_true rfl) dX9_act_4 ⟨Nat.zero_le _, Nat.zero_le _⟩) (fun r1 w1 H locs h hw => ?_)
  refine lv_if_eq (tgt := 14) hx hb dX9_act_7 (by decide) (fun c1 => ?_) (fun c1 => ?_)
  · have h := h.1 c1
    refine lv_iconst (v := 1) hx hb dX9_act_14 (by decide) ?_
    refine p9_0 C hw (hF 15 (by decide)) K_f_X9_45 dX9_act_15 (fun H locs hw => ?_)
    refine lv_aload_n hx hb dX9_act_18 rfl (lv_at hl 0 rfl) ?_
    refine g9_0 C hw (hF 15 (by decide)) K_f_X9_45 dX9_act_19 ?_
    refine lv_if_le (tgt := 27) hx hb dX9_act_22 (by decide) (fun c2 => ?_) (fun c2 => ?_)
    · have h := h.1 c2
      refine lv_aload_n hx hb dX9_act_27 rfl (lv_at hl 0 rfl) ?_
      refine g9_13 C hw (hF 15 (by decide)) K_f_X9_17 dX9_act_28 ?_
      refine lv_bipush (v := 56) hx hb dX9_act_31 (by decide) ?_
      refine r_iald C hw 18 140 (hF 18 (by decide)) rfl (vp_lit (by decide)) dX9_act_33 ?_
      refine lv_bipush (v := 16) hx hb dX9_act_34 (by decide) ?_
      refine lv_icmp_ge (tgt := 49) hx hb dX9_act_36 (by decide) (fun c3 => ?_) (fun c3 => ?_)
      · have h := h.1 c3
        refine lv_bipush (v := 16) hx hb dX9_act_49 (by decide) ?_
        refine lv_istore_n (lv' := [(3, .int 16), (0, .ref (eA E 15)), (1, .int p1), (2, .int p2)]) hx hb dX9_act_51 rfl hl (by decide) rfl (fun ls hl => ?_)
        refine lv_iload_n hx hb dX9_act_52 rfl (lv_at hl 2 rfl) ?_
        refine lv_iconst (v := 0) hx hb dX9_act_53 (by decide) ?_
        refine lv_iload_n hx hb dX9_act_54 rfl (lv_at hl 0 rfl) ?_
        refine lv_iconst (v := 1) hx hb dX9_act_55 (by decide) ?_
        refine lv_isub hx hb dX9_act_56 ?_
        refine done_i hw (my_runS (As := [.int p1, .int 0, .int (16 - 1)]) (rest := []) C hw (mt_X9_within l C.2.2.2.2.2.2.2 hF _ _ _ _ h) K_m_X9_72 K_s_X9_within K_n_X9 K_c_X9_within hy_X9_within ⟨Nat.le_of_ble_eq_true rfl, Nat.le_of_ble_eq_true rfl⟩ hl.1 rfl (Nat.le_of_ble_eq_true rfl) dX9_act_57 ⟨Nat.zero_le _, Nat.zero_le _⟩) (fun r2 w2 H locs h hw => ?_)
        refine lv_if_eq (tgt := 92) hx hb dX9_act_60 (by decide) (fun c4 => ?_) (fun c4 => ?_)
        · have h := h.1 c4
          refine lv_iconst (v := (-1)) hx hb dX9_act_92 (by decide) ?_
          rw [hQ]
          exact ret_i C hr hlk hw h dX9_act_93
        · have h := h.2 c4
          refine lv_aload_n hx hb dX9_act_63 rfl (lv_at hl 1 rfl) ?_
          refine g9_13 C hw (hF 15 (by decide)) K_f_X9_17 dX9_act_64 ?_
          refine lv_bipush (v := 60) hx hb dX9_act_67 (by decide) ?_
          refine lv_iconst (v := 5) hx hb dX9_act_69 (by decide) ?_
          refine lv_aload_n hx hb dX9_act_70 rfl (lv_at hl 1 rfl) ?_
          refine g9_13 C hw (hF 15 (by decide)) K_f_X9_17 dX9_act_71 ?_
          refine lv_bipush (v := 56) hx hb dX9_act_74 (by decide) ?_
          refine r_iald C hw 18 140 (hF 18 (by decide)) rfl (vp_lit (by decide)) dX9_act_76 ?_
          refine lv_iconst (v := 1) hx hb dX9_act_77 (by decide) ?_
          refine lv_isub hx hb dX9_act_78 ?_
          refine lv_iload_n hx hb dX9_act_79 rfl (lv_at hl 2 rfl) ?_
          refine lv_isub hx hb dX9_act_80 ?_
          refine lv_bipush (v := 16) hx hb dX9_act_81 (by decide) ?_
          refine lv_irem hx hb dX9_act_83 (by decide) ?_
          refine lv_imul hx hb dX9_act_84 ?_
          refine lv_iadd hx hb dX9_act_85 ?_
          refine lv_iload_n hx hb dX9_act_86 rfl (lv_at hl 3 rfl) ?_
          refine lv_iadd hx hb dX9_act_87 ?_
          obtain ⟨hi3, h⟩ := h
          refine r_iald C hw 18 140 (hF 18 (by decide)) rfl hi3 dX9_act_88 ?_
          refine lv_goto (tgt := 93) hx hb dX9_act_89 (by decide) ?_
          rw [hQ]
          exact ret_i C hr hlk hw h dX9_act_93
      · have h := h.2 c3
        refine lv_aload_n hx hb dX9_act_39 rfl (lv_at hl 0 rfl) ?_
        refine g9_13 C hw (hF 15 (by decide)) K_f_X9_17 dX9_act_40 ?_
        refine lv_bipush (v := 56) hx hb dX9_act_43 (by decide) ?_
        refine r_iald C hw 18 140 (hF 18 (by decide)) rfl (vp_lit (by decide)) dX9_act_45 ?_
        refine lv_goto (tgt := 51) hx hb dX9_act_46 (by decide) ?_
        refine lv_topi (fun y1 ey1 => ?_)
        have h := h y1 ey1
        refine lv_istore_n (lv' := [(3, .int y1), (0, .ref (eA E 15)), (1, .int p1), (2, .int p2)]) hx hb dX9_act_51 rfl hl (by decide) rfl (fun ls hl => ?_)
        refine lv_iload_n hx hb dX9_act_52 rfl (lv_at hl 2 rfl) ?_
        refine lv_iconst (v := 0) hx hb dX9_act_53 (by decide) ?_
        refine lv_iload_n hx hb dX9_act_54 rfl (lv_at hl 0 rfl) ?_
        refine lv_iconst (v := 1) hx hb dX9_act_55 (by decide) ?_
        refine lv_isub hx hb dX9_act_56 ?_
        refine done_i hw (my_runS (As := [.int p1, .int 0, .int (y1 - 1)]) (rest := []) C hw (mt_X9_within l C.2.2.2.2.2.2.2 hF _ _ _ _ h) K_m_X9_72 K_s_X9_within K_n_X9 K_c_X9_within hy_X9_within ⟨Nat.le_of_ble_eq_true rfl, Nat.le_of_ble_eq_true rfl⟩ hl.1 rfl (Nat.le_of_ble_eq_true rfl) dX9_act_57 ⟨Nat.zero_le _, Nat.zero_le _⟩) (fun r3 w3 H locs h hw => ?_)
        refine lv_if_eq (tgt := 92) hx hb dX9_act_60 (by decide) (fun c5 => ?_) (fun c5 => ?_)
        · have h := h.1 c5
          refine lv_iconst (v := (-1)) hx hb dX9_act_92 (by decide) ?_
          rw [hQ]
          exact ret_i C hr hlk hw h dX9_act_93
        · have h := h.2 c5
          refine lv_aload_n hx hb dX9_act_63 rfl (lv_at hl 1 rfl) ?_
          refine g9_13 C hw (hF 15 (by decide)) K_f_X9_17 dX9_act_64 ?_
          refine lv_bipush (v := 60) hx hb dX9_act_67 (by decide) ?_
          refine lv_iconst (v := 5) hx hb dX9_act_69 (by decide) ?_
          refine lv_aload_n hx hb dX9_act_70 rfl (lv_at hl 1 rfl) ?_
          refine g9_13 C hw (hF 15 (by decide)) K_f_X9_17 dX9_act_71 ?_
          refine lv_bipush (v := 56) hx hb dX9_act_74 (by decide) ?_
          refine r_iald C hw 18 140 (hF 18 (by decide)) rfl (vp_lit (by decide)) dX9_act_76 ?_
          refine lv_iconst (v := 1) hx hb dX9_act_77 (by decide) ?_
          refine lv_isub hx hb dX9_act_78 ?_
          refine lv_iload_n hx hb dX9_act_79 rfl (lv_at hl 2 rfl) ?_
          refine lv_isub hx hb dX9_act_80 ?_
          refine lv_bipush (v := 16) hx hb dX9_act_81 (by decide) ?_
          refine lv_irem hx hb dX9_act_83 (by decide) ?_
          refine lv_imul hx hb dX9_act_84 ?_
          refine lv_iadd hx hb dX9_act_85 ?_
          refine lv_iload_n hx hb dX9_act_86 rfl (lv_at hl 3 rfl) ?_
          refine lv_iadd hx hb dX9_act_87 ?_
          obtain ⟨hi6, h⟩ := h
          refine r_iald C hw 18 140 (hF 18 (by decide)) rfl hi6 dX9_act_88 ?_
          refine lv_goto (tgt := 93) hx hb dX9_act_89 (by decide) ?_
          rw [hQ]
          exact ret_i C hr hlk hw h dX9_act_93
    · have h := h.2 c2
      refine lv_iconst (v := 0) hx hb dX9_act_25 (by decide) ?_
      rw [hQ]
      exact ret_i C hr hlk hw h dX9_act_26
  · have h := h.2 c1
    refine lv_iconst (v := 0) hx hb dX9_act_10 (by decide) ?_
    refine lv_goto (tgt := 15) hx hb dX9_act_11 (by decide) ?_
    refine p9_0 C hw (hF 15 (by decide)) K_f_X9_45 dX9_act_15 (fun H locs hw => ?_)
    refine lv_aload_n hx hb dX9_act_18 rfl (lv_at hl 0 rfl) ?_
    refine g9_0 C hw (hF 15 (by decide)) K_f_X9_45 dX9_act_19 ?_
    refine lv_if_le (tgt := 27) hx hb dX9_act_22 (by decide) (fun c6 => ?_) (fun c6 => ?_)
    · have h := h.1 c6
      refine lv_aload_n hx hb dX9_act_27 rfl (lv_at hl 0 rfl) ?_
      refine g9_13 C hw (hF 15 (by decide)) K_f_X9_17 dX9_act_28 ?_
      refine lv_bipush (v := 56) hx hb dX9_act_31 (by decide) ?_
      refine r_iald C hw 18 140 (hF 18 (by decide)) rfl (vp_lit (by decide)) dX9_act_33 ?_
      refine lv_bipush (v := 16) hx hb dX9_act_34 (by decide) ?_
      refine lv_icmp_ge (tgt := 49) hx hb dX9_act_36 (by decide) (fun c7 => ?_) (fun c7 => ?_)
      · have h := h.1 c7
        refine lv_bipush (v := 16) hx hb dX9_act_49 (by decide) ?_
        refine lv_istore_n (lv' := [(3, .int 16), (0, .ref (eA E 15)), (1, .int p1), (2, .int p2)]) hx hb dX9_act_51 rfl hl (by decide) rfl (fun ls hl => ?_)
        refine lv_iload_n hx hb dX9_act_52 rfl (lv_at hl 2 rfl) ?_
        refine lv_iconst (v := 0) hx hb dX9_act_53 (by decide) ?_
        refine lv_iload_n hx hb dX9_act_54 rfl (lv_at hl 0 rfl) ?_
        refine lv_iconst (v := 1) hx hb dX9_act_55 (by decide) ?_
        refine lv_isub hx hb dX9_act_56 ?_
        refine done_i hw (my_runS (As := [.int p1, .int 0, .int (16 - 1)]) (rest := []) C hw (mt_X9_within l C.2.2.2.2.2.2.2 hF _ _ _ _ h) K_m_X9_72 K_s_X9_within K_n_X9 K_c_X9_within hy_X9_within ⟨Nat.le_of_ble_eq_true rfl, Nat.le_of_ble_eq_true rfl⟩ hl.1 rfl (Nat.le_of_ble_eq_true rfl) dX9_act_57 ⟨Nat.zero_le _, Nat.zero_le _⟩) (fun r4 w4 H locs h hw => ?_)
        refine lv_if_eq (tgt := 92) hx hb dX9_act_60 (by decide) (fun c8 => ?_) (fun c8 => ?_)
        · have h := h.1 c8
          refine lv_iconst (v := (-1)) hx hb dX9_act_92 (by decide) ?_
          rw [hQ]
          exact ret_i C hr hlk hw h dX9_act_93
        · have h := h.2 c8
          refine lv_aload_n hx hb dX9_act_63 rfl (lv_at hl 1 rfl) ?_
          refine g9_13 C hw (hF 15 (by decide)) K_f_X9_17 dX9_act_64 ?_
          refine lv_bipush (v := 60) hx hb dX9_act_67 (by decide) ?_
          refine lv_iconst (v := 5) hx hb dX9_act_69 (by decide) ?_
          refine lv_aload_n hx hb dX9_act_70 rfl (lv_at hl 1 rfl) ?_
          refine g9_13 C hw (hF 15 (by decide)) K_f_X9_17 dX9_act_71 ?_
          refine lv_bipush (v := 56) hx hb dX9_act_74 (by decide) ?_
          refine r_iald C hw 18 140 (hF 18 (by decide)) rfl (vp_lit (by decide)) dX9_act_76 ?_
          refine lv_iconst (v := 1) hx hb dX9_act_77 (by decide) ?_
          refine lv_isub hx hb dX9_act_78 ?_
          refine lv_iload_n hx hb dX9_act_79 rfl (lv_at hl 2 rfl) ?_
          refine lv_isub hx hb dX9_act_80 ?_
          refine lv_bipush (v := 16) hx hb dX9_act_81 (by decide) ?_
          refine lv_irem hx hb dX9_act_83 (by decide) ?_
          refine lv_imul hx hb dX9_act_84 ?_
          refine lv_iadd hx hb dX9_act_85 ?_
          refine lv_iload_n hx hb dX9_act_86 rfl (lv_at hl 3 rfl) ?_
          refine lv_iadd hx hb dX9_act_87 ?_
          obtain ⟨hi9, h⟩ := h
          refine r_iald C hw 18 140 (hF 18 (by decide)) rfl hi9 dX9_act_88 ?_
          refine lv_goto (tgt := 93) hx hb dX9_act_89 (by decide) ?_
          rw [hQ]
          exact ret_i C hr hlk hw h dX9_act_93
      · have h := h.2 c7
        refine lv_aload_n hx hb dX9_act_39 rfl (lv_at hl 0 rfl) ?_
        refine g9_13 C hw (hF 15 (by decide)) K_f_X9_17 dX9_act_40 ?_
        refine lv_bipush (v := 56) hx hb dX9_act_43 (by decide) ?_
        refine r_iald C hw 18 140 (hF 18 (by decide)) rfl (vp_lit (by decide)) dX9_act_45 ?_
        refine lv_goto (tgt := 51) hx hb dX9_act_46 (by decide) ?_
        refine lv_topi (fun y2 ey2 => ?_)
        have h := h y2 ey2
        refine lv_istore_n (lv' := [(3, .int y2), (0, .ref (eA E 15)), (1, .int p1), (2, .int p2)]) hx hb dX9_act_51 rfl hl (by decide) rfl (fun ls hl => ?_)
        refine lv_iload_n hx hb dX9_act_52 rfl (lv_at hl 2 rfl) ?_
        refine lv_iconst (v := 0) hx hb dX9_act_53 (by decide) ?_
        refine lv_iload_n hx hb dX9_act_54 rfl (lv_at hl 0 rfl) ?_
        refine lv_iconst (v := 1) hx hb dX9_act_55 (by decide) ?_
        refine lv_isub hx hb dX9_act_56 ?_
        refine done_i hw (my_runS (As := [.int p1, .int 0, .int (y2 - 1)]) (rest := []) C hw (mt_X9_within l C.2.2.2.2.2.2.2 hF _ _ _ _ h) K_m_X9_72 K_s_X9_within K_n_X9 K_c_X9_within hy_X9_within ⟨Nat.le_of_ble_eq_true rfl, Nat.le_of_ble_eq_true rfl⟩ hl.1 rfl (Nat.le_of_ble_eq_true rfl) dX9_act_57 ⟨Nat.zero_le _, Nat.zero_le _⟩) (fun r5 w5 H locs h hw => ?_)
        refine lv_if_eq (tgt := 92) hx hb dX9_act_60 (by decide) (fun c9 => ?_) (fun c9 => ?_)
        · have h := h.1 c9
          refine lv_iconst (v := (-1)) hx hb dX9_act_92 (by decide) ?_
          rw [hQ]
          exact ret_i C hr hlk hw h dX9_act_93
        · have h := h.2 c9
          refine lv_aload_n hx hb dX9_act_63 rfl (lv_at hl 1 rfl) ?_
          refine g9_13 C hw (hF 15 (by decide)) K_f_X9_17 dX9_act_64 ?_
          refine lv_bipush (v := 60) hx hb dX9_act_67 (by decide) ?_
          refine lv_iconst (v := 5) hx hb dX9_act_69 (by decide) ?_
          refine lv_aload_n hx hb dX9_act_70 rfl (lv_at hl 1 rfl) ?_
          refine g9_13 C hw (hF 15 (by decide)) K_f_X9_17 dX9_act_71 ?_
          refine lv_bipush (v := 56) hx hb dX9_act_74 (by decide) ?_
          refine r_iald C hw 18 140 (hF 18 (by decide)) rfl (vp_lit (by decide)) dX9_act_76 ?_
          refine lv_iconst (v := 1) hx hb dX9_act_77 (by decide) ?_
          refine lv_isub hx hb dX9_act_78 ?_
          refine lv_iload_n hx hb dX9_act_79 rfl (lv_at hl 2 rfl) ?_
          refine lv_isub hx hb dX9_act_80 ?_
          refine lv_bipush (v := 16) hx hb dX9_act_81 (by decide) ?_
          refine lv_irem hx hb dX9_act_83 (by decide) ?_
          refine lv_imul hx hb dX9_act_84 ?_
          refine lv_iadd hx hb dX9_act_85 ?_
          refine lv_iload_n hx hb dX9_act_86 rfl (lv_at hl 3 rfl) ?_
          refine lv_iadd hx hb dX9_act_87 ?_
          obtain ⟨hi12, h⟩ := h
          refine r_iald C hw 18 140 (hF 18 (by decide)) rfl hi12 dX9_act_88 ?_
          refine lv_goto (tgt := 93) hx hb dX9_act_89 (by decide) ?_
          rw [hQ]
          exact ret_i C hr hlk hw h dX9_act_93
    · have h := h.2 c6
      refine lv_iconst (v := 0) hx hb dX9_act_25 (by decide) ?_
      rw [hQ]
      exact ret_i C hr hlk hw h dX9_act_26
theorem hy_X9_valueOf : yX9_valueOf.cls ≠ "java/lang/invoke/MethodHandle" ∧ yX9_valueOf.cls ≠ "java/lang/invoke/VarHandle" ∧ (parseMethodDescriptor yX9_valueOf.desc).map (fun d => d.parameters.length) = some 2 := by decide +kernel
def wp_X9_valueOf (w : Wd) (p1 : Int32) (p2 : Int32) (Post : Int32 → Wd → Prop) : Prop :=
  wp_X9_isLadder w p1 (fun r1 w1 => (r1 = 0 → (((gI (sI w1 15 0 1) 15 0) ≤ 0 → ((p2 < 0 → (wp_X9_fail (sI w1 15 0 1) 2 (fun r9 w10 => Post r9 w10))) ∧ (¬ p2 < 0 → (wp_X9_of (sI w1 15 0 1) p1 0 (fun r10 w11 => (((2 : Int32) <<< (r10 &&& 31)) ≤ p2 → (wp_X9_fail w11 2 (fun r11 w12 => Post r11 w12))) ∧ (¬ ((2 : Int32) <<< (r10 &&& 31)) ≤ p2 → (((p2 - p2 / 2 * 2) = 0 → (wp_X9_bits w11 p2 (fun r13 w14 => wp_X9_of w14 p1 1 (fun r14 w15 => (r14 < r13 → (wp_X9_fail w15 2 (fun r15 w16 => Post r15 w16))) ∧ (¬ r14 < r13 → (wp_X9_lays w15 p1 (fun w17 => vp_in p2 8192 ∧ (Post (gA w17 22 p2.toNatClampNeg) w17)))))))) ∧ (¬ (p2 - p2 / 2 * 2) = 0 → (wp_X9_fail w11 2 (fun r12 w13 => Post r12 w13)))))))))) ∧ (¬ (gI (sI w1 15 0 1) 15 0) ≤ 0 → (Post 0 (sI w1 15 0 1))))) ∧ (¬ r1 = 0 → (((gI (sI w1 15 0 0) 15 0) ≤ 0 → ((p2 < 0 → (wp_X9_fail (sI w1 15 0 0) 2 (fun r2 w2 => Post r2 w2))) ∧ (¬ p2 < 0 → (wp_X9_of (sI w1 15 0 0) p1 0 (fun r3 w3 => (((2 : Int32) <<< (r3 &&& 31)) ≤ p2 → (wp_X9_fail w3 2 (fun r4 w4 => Post r4 w4))) ∧ (¬ ((2 : Int32) <<< (r3 &&& 31)) ≤ p2 → (((p2 - p2 / 2 * 2) = 0 → (wp_X9_bits w3 p2 (fun r6 w6 => wp_X9_of w6 p1 1 (fun r7 w7 => (r7 < r6 → (wp_X9_fail w7 2 (fun r8 w8 => Post r8 w8))) ∧ (¬ r7 < r6 → (wp_X9_lays w7 p1 (fun w9 => vp_in p2 8192 ∧ (Post (gA w9 22 p2.toNatClampNeg) w9)))))))) ∧ (¬ (p2 - p2 / 2 * 2) = 0 → (wp_X9_fail w3 2 (fun r5 w5 => Post r5 w5)))))))))) ∧ (¬ (gI (sI w1 15 0 0) 15 0) ≤ 0 → (Post 0 (sI w1 15 0 0))))))
set_option maxHeartbeats 4000000 in
set_option maxRecDepth 100000 in
theorem mt_X9_valueOf (l : Launch) {E : En} (hI : Inj E) (hF : ∀ o, (15 ≤ o ∧ o < 25) → o ∈ eL E) (w : Wd) (p1 : Int32) (p2 : Int32) {Post : Int32 → Wd → Prop} (h : wp_X9_valueOf w p1 p2 Post) : MI l E yX9_valueOf cX9_valueOf 4 (some .int) 5 118 [.ref (eA E 15), .int p1, .int p2] w Post := by
  refine MG.intro hI (by decide +kernel) (Nat.le_of_ble_eq_true rfl) ?_
  intro p e s m args below meth c Q C hr hlk hQ hw ls hl
  have hx := C.1
  have hb := C.2.1
  have hl : lv_has ls 4 [(0, .ref (eA E 15)), (1, .int p1), (2, .int p2)] := hl
  unfold wp_X9_valueOf at h
  refine lv_aload_n hx hb dX9_valueOf_0 rfl (lv_at hl 0 rfl) ?_
  refine lv_aload_n hx hb dX9_valueOf_1 rfl (lv_at hl 0 rfl) ?_
  refine lv_iload_n hx hb dX9_valueOf_2 rfl (lv_at hl 1 rfl) ?_
  refine done_i hw (my_runV (As := [.int p1]) (rest := [.ref (eA E 15)]) C hw 15 9 (hF 15 (by decide)) rfl rfl (mt_X9_isLadder l C.2.2.2.2.2.2.2 hF _ _ h) K_m_X9_197 K_i_X9_isLadder K_v_X9_isLadder K_n_X9 K_c_X9_isLadder hy_X9_isLadder ⟨Nat.le_of_ble_eq_true rfl, Nat.le_of_ble_eq_true rfl⟩ hl.1 rfl (Nat.le_of_ble_eq_true rfl) dX9_valueOf_3 ⟨Nat.zero_le _, Nat.zero_le _⟩) (fun r1 w1 H locs h hw => ?_)
  refine lv_if_ne (tgt := 13) hx hb dX9_valueOf_6 (by decide) (fun c1 => ?_) (fun c1 => ?_)
  · have h := h.2 c1
    refine lv_iconst (v := 0) hx hb dX9_valueOf_13 (by decide) ?_
    refine p9_0 C hw (hF 15 (by decide)) K_f_X9_45 dX9_valueOf_14 (fun H locs hw => ?_)
    refine lv_aload_n hx hb dX9_valueOf_17 rfl (lv_at hl 0 rfl) ?_
    refine g9_0 C hw (hF 15 (by decide)) K_f_X9_45 dX9_valueOf_18 ?_
    refine lv_if_le (tgt := 26) hx hb dX9_valueOf_21 (by decide) (fun c2 => ?_) (fun c2 => ?_)
    · have h := h.1 c2
      refine lv_iload_n hx hb dX9_valueOf_26 rfl (lv_at hl 2 rfl) ?_
      refine lv_if_lt (tgt := 65) hx hb dX9_valueOf_27 (by decide) (fun c3 => ?_) (fun c3 => ?_)
      · have h := h.1 c3
        refine lv_iconst (v := 0) hx hb dX9_valueOf_65 (by decide) ?_
        refine lv_istore_n (lv' := [(3, .int 0), (0, .ref (eA E 15)), (1, .int p1), (2, .int p2)]) hx hb dX9_valueOf_66 rfl hl (by decide) rfl (fun ls hl => ?_)
        refine lv_iload_n hx hb dX9_valueOf_67 rfl (lv_at hl 0 rfl) ?_
        refine lv_if_ne (tgt := 77) hx hb dX9_valueOf_68 (by decide) (fun c4 => ?_) (fun c4 => ?_)
        · exact absurd c4 (by decide)
        · refine lv_aload_n hx hb dX9_valueOf_71 rfl (lv_at hl 1 rfl) ?_
          refine lv_iconst (v := 2) hx hb dX9_valueOf_72 (by decide) ?_
          refine done_i hw (my_runV (As := [.int 2]) (rest := []) C hw 15 9 (hF 15 (by decide)) rfl rfl (mt_X9_fail l C.2.2.2.2.2.2.2 hF _ _ h) K_m_X9_157 K_i_X9_fail K_v_X9_fail K_n_X9 K_c_X9_fail hy_X9_fail ⟨Nat.le_of_ble_eq_true rfl, Nat.le_of_ble_eq_true rfl⟩ hl.1 rfl (Nat.le_of_ble_eq_true rfl) dX9_valueOf_73 ⟨Nat.zero_le _, Nat.zero_le _⟩) (fun r2 w2 H locs h hw => ?_)
          rw [hQ]
          exact ret_i C hr hlk hw h dX9_valueOf_76
      · have h := h.2 c3
        refine lv_iload_n hx hb dX9_valueOf_30 rfl (lv_at hl 2 rfl) ?_
        refine lv_iconst (v := 2) hx hb dX9_valueOf_31 (by decide) ?_
        refine lv_aload_n hx hb dX9_valueOf_32 rfl (lv_at hl 0 rfl) ?_
        refine lv_iload_n hx hb dX9_valueOf_33 rfl (lv_at hl 1 rfl) ?_
        refine lv_iconst (v := 0) hx hb dX9_valueOf_34 (by decide) ?_
        refine done_i hw (my_runV (As := [.int p1, .int 0]) (rest := [.int 2, .int p2]) C hw 15 9 (hF 15 (by decide)) rfl rfl (mt_X9_of l C.2.2.2.2.2.2.2 hF _ _ _ h) K_m_X9_173 K_i_X9_of K_v_X9_of K_n_X9 K_c_X9_of hy_X9_of ⟨Nat.le_of_ble_eq_true rfl, Nat.le_of_ble_eq_true rfl⟩ hl.1 rfl (Nat.le_of_ble_eq_true rfl) dX9_valueOf_35 ⟨Nat.zero_le _, Nat.zero_le _⟩) (fun r3 w3 H locs h hw => ?_)
        refine lv_ishl hx hb dX9_valueOf_38 ?_
        refine lv_icmp_ge (tgt := 65) hx hb dX9_valueOf_39 (by decide) (fun c5 => ?_) (fun c5 => ?_)
        · have h := h.1 c5
          refine lv_iconst (v := 0) hx hb dX9_valueOf_65 (by decide) ?_
          refine lv_istore_n (lv' := [(3, .int 0), (0, .ref (eA E 15)), (1, .int p1), (2, .int p2)]) hx hb dX9_valueOf_66 rfl hl (by decide) rfl (fun ls hl => ?_)
          refine lv_iload_n hx hb dX9_valueOf_67 rfl (lv_at hl 0 rfl) ?_
          refine lv_if_ne (tgt := 77) hx hb dX9_valueOf_68 (by decide) (fun c6 => ?_) (fun c6 => ?_)
          · exact absurd c6 (by decide)
          · refine lv_aload_n hx hb dX9_valueOf_71 rfl (lv_at hl 1 rfl) ?_
            refine lv_iconst (v := 2) hx hb dX9_valueOf_72 (by decide) ?_
            refine done_i hw (my_runV (As := [.int 2]) (rest := []) C hw 15 9 (hF 15 (by decide)) rfl rfl (mt_X9_fail l C.2.2.2.2.2.2.2 hF _ _ h) K_m_X9_157 K_i_X9_fail K_v_X9_fail K_n_X9 K_c_X9_fail hy_X9_fail ⟨Nat.le_of_ble_eq_true rfl, Nat.le_of_ble_eq_true rfl⟩ hl.1 rfl (Nat.le_of_ble_eq_true rfl) dX9_valueOf_73 ⟨Nat.zero_le _, Nat.zero_le _⟩) (fun r4 w4 H locs h hw => ?_)
            rw [hQ]
            exact ret_i C hr hlk hw h dX9_valueOf_76
        · have h := h.2 c5
          refine lv_iload_n hx hb dX9_valueOf_42 rfl (lv_at hl 2 rfl) ?_
          refine lv_iconst (v := 2) hx hb dX9_valueOf_43 (by decide) ?_
          refine lv_irem hx hb dX9_valueOf_44 (by decide) ?_
          refine lv_if_ne (tgt := 65) hx hb dX9_valueOf_45 (by decide) (fun c7 => ?_) (fun c7 => ?_)
          · have h := h.2 c7
            refine lv_iconst (v := 0) hx hb dX9_valueOf_65 (by decide) ?_
            refine lv_istore_n (lv' := [(3, .int 0), (0, .ref (eA E 15)), (1, .int p1), (2, .int p2)]) hx hb dX9_valueOf_66 rfl hl (by decide) rfl (fun ls hl => ?_)
            refine lv_iload_n hx hb dX9_valueOf_67 rfl (lv_at hl 0 rfl) ?_
            refine lv_if_ne (tgt := 77) hx hb dX9_valueOf_68 (by decide) (fun c8 => ?_) (fun c8 => ?_)
            · exact absurd c8 (by decide)
            · refine lv_aload_n hx hb dX9_valueOf_71 rfl (lv_at hl 1 rfl) ?_
              refine lv_iconst (v := 2) hx hb dX9_valueOf_72 (by decide) ?_
              refine done_i hw (my_runV (As := [.int 2]) (rest := []) C hw 15 9 (hF 15 (by decide)) rfl rfl (mt_X9_fail l C.2.2.2.2.2.2.2 hF _ _ h) K_m_X9_157 K_i_X9_fail K_v_X9_fail K_n_X9 K_c_X9_fail hy_X9_fail ⟨Nat.le_of_ble_eq_true rfl, Nat.le_of_ble_eq_true rfl⟩ hl.1 rfl (Nat.le_of_ble_eq_true rfl) dX9_valueOf_73 ⟨Nat.zero_le _, Nat.zero_le _⟩) (fun r5 w5 H locs h hw => ?_)
              rw [hQ]
              exact ret_i C hr hlk hw h dX9_valueOf_76
          · have h := h.1 c7
            refine lv_iload_n hx hb dX9_valueOf_48 rfl (lv_at hl 2 rfl) ?_
            refine done_i hw (my_runS (As := [.int p2]) (rest := []) C hw (mt_X9_bits l C.2.2.2.2.2.2.2 hF _ _ h) K_m_X9_128 K_s_X9_bits K_n_X9 K_c_X9_bits hy_X9_bits ⟨Nat.le_of_ble_eq_true rfl, Nat.le_of_ble_eq_true rfl⟩ hl.1 rfl (Nat.le_of_ble_eq_true rfl) dX9_valueOf_49 ⟨Nat.zero_le _, Nat.zero_le _⟩) (fun r6 w6 H locs h hw => ?_)
            refine lv_aload_n hx hb dX9_valueOf_52 rfl (lv_at hl 0 rfl) ?_
            refine lv_iload_n hx hb dX9_valueOf_53 rfl (lv_at hl 1 rfl) ?_
            refine lv_iconst (v := 1) hx hb dX9_valueOf_54 (by decide) ?_
            refine done_i hw (my_runV (As := [.int p1, .int 1]) (rest := [.int r6]) C hw 15 9 (hF 15 (by decide)) rfl rfl (mt_X9_of l C.2.2.2.2.2.2.2 hF _ _ _ h) K_m_X9_173 K_i_X9_of K_v_X9_of K_n_X9 K_c_X9_of hy_X9_of ⟨Nat.le_of_ble_eq_true rfl, Nat.le_of_ble_eq_true rfl⟩ hl.1 rfl (Nat.le_of_ble_eq_true rfl) dX9_valueOf_55 ⟨Nat.zero_le _, Nat.zero_le _⟩) (fun r7 w7 H locs h hw => ?_)
            refine lv_icmp_gt (tgt := 65) hx hb dX9_valueOf_58 (by decide) (fun c9 => ?_) (fun c9 => ?_)
            · have h := h.1 c9
              refine lv_iconst (v := 0) hx hb dX9_valueOf_65 (by decide) ?_
              refine lv_istore_n (lv' := [(3, .int 0), (0, .ref (eA E 15)), (1, .int p1), (2, .int p2)]) hx hb dX9_valueOf_66 rfl hl (by decide) rfl (fun ls hl => ?_)
              refine lv_iload_n hx hb dX9_valueOf_67 rfl (lv_at hl 0 rfl) ?_
              refine lv_if_ne (tgt := 77) hx hb dX9_valueOf_68 (by decide) (fun c10 => ?_) (fun c10 => ?_)
              · exact absurd c10 (by decide)
              · refine lv_aload_n hx hb dX9_valueOf_71 rfl (lv_at hl 1 rfl) ?_
                refine lv_iconst (v := 2) hx hb dX9_valueOf_72 (by decide) ?_
                refine done_i hw (my_runV (As := [.int 2]) (rest := []) C hw 15 9 (hF 15 (by decide)) rfl rfl (mt_X9_fail l C.2.2.2.2.2.2.2 hF _ _ h) K_m_X9_157 K_i_X9_fail K_v_X9_fail K_n_X9 K_c_X9_fail hy_X9_fail ⟨Nat.le_of_ble_eq_true rfl, Nat.le_of_ble_eq_true rfl⟩ hl.1 rfl (Nat.le_of_ble_eq_true rfl) dX9_valueOf_73 ⟨Nat.zero_le _, Nat.zero_le _⟩) (fun r8 w8 H locs h hw => ?_)
                rw [hQ]
                exact ret_i C hr hlk hw h dX9_valueOf_76
            · have h := h.2 c9
              refine lv_iconst (v := 1) hx hb dX9_valueOf_61 (by decide) ?_
              refine lv_goto (tgt := 66) hx hb dX9_valueOf_62 (by decide) ?_
              refine lv_istore_n (lv' := [(3, .int 1), (0, .ref (eA E 15)), (1, .int p1), (2, .int p2)]) hx hb dX9_valueOf_66 rfl hl (by decide) rfl (fun ls hl => ?_)
              refine lv_iload_n hx hb dX9_valueOf_67 rfl (lv_at hl 0 rfl) ?_
              refine lv_if_ne (tgt := 77) hx hb dX9_valueOf_68 (by decide) (fun c11 => ?_) (fun c11 => ?_)
              · refine lv_aload_n hx hb dX9_valueOf_77 rfl (lv_at hl 1 rfl) ?_
                refine lv_iload_n hx hb dX9_valueOf_78 rfl (lv_at hl 2 rfl) ?_
                refine done_v hw (my_runV (As := [.int p1]) (rest := []) C hw 15 9 (hF 15 (by decide)) rfl rfl (mt_X9_lays l C.2.2.2.2.2.2.2 hF _ _ h) K_m_X9_184 K_i_X9_lays K_v_X9_lays K_n_X9 K_c_X9_lays hy_X9_lays ⟨Nat.le_of_ble_eq_true rfl, Nat.le_of_ble_eq_true rfl⟩ hl.1 rfl (Nat.le_of_ble_eq_true rfl) dX9_valueOf_79 ⟨Nat.zero_le _, Nat.zero_le _⟩) (fun w9 H locs h hw => ?_)
                refine lv_aload_n hx hb dX9_valueOf_82 rfl (lv_at hl 1 rfl) ?_
                refine g9_18 C hw (hF 15 (by decide)) K_f_X9_30 dX9_valueOf_83 ?_
                refine lv_iload_n hx hb dX9_valueOf_86 rfl (lv_at hl 3 rfl) ?_
                obtain ⟨hi1, h⟩ := h
                refine r_iald C hw 22 8192 (hF 22 (by decide)) rfl hi1 dX9_valueOf_87 ?_
                rw [hQ]
                exact ret_i C hr hlk hw h dX9_valueOf_88
              · exact absurd c11 (by decide)
    · have h := h.2 c2
      refine lv_iconst (v := 0) hx hb dX9_valueOf_24 (by decide) ?_
      rw [hQ]
      exact ret_i C hr hlk hw h dX9_valueOf_25
  · have h := h.1 c1
    refine lv_iconst (v := 1) hx hb dX9_valueOf_9 (by decide) ?_
    refine lv_goto (tgt := 14) hx hb dX9_valueOf_10 (by decide) ?_
    refine p9_0 C hw (hF 15 (by decide)) K_f_X9_45 dX9_valueOf_14 (fun H locs hw => ?_)
    refine lv_aload_n hx hb dX9_valueOf_17 rfl (lv_at hl 0 rfl) ?_
    refine g9_0 C hw (hF 15 (by decide)) K_f_X9_45 dX9_valueOf_18 ?_
    refine lv_if_le (tgt := 26) hx hb dX9_valueOf_21 (by decide) (fun c12 => ?_) (fun c12 => ?_)
    · have h := h.1 c12
      refine lv_iload_n hx hb dX9_valueOf_26 rfl (lv_at hl 2 rfl) ?_
      refine lv_if_lt (tgt := 65) hx hb dX9_valueOf_27 (by decide) (fun c13 => ?_) (fun c13 => ?_)
      · have h := h.1 c13
        refine lv_iconst (v := 0) hx hb dX9_valueOf_65 (by decide) ?_
        refine lv_istore_n (lv' := [(3, .int 0), (0, .ref (eA E 15)), (1, .int p1), (2, .int p2)]) hx hb dX9_valueOf_66 rfl hl (by decide) rfl (fun ls hl => ?_)
        refine lv_iload_n hx hb dX9_valueOf_67 rfl (lv_at hl 0 rfl) ?_
        refine lv_if_ne (tgt := 77) hx hb dX9_valueOf_68 (by decide) (fun c14 => ?_) (fun c14 => ?_)
        · exact absurd c14 (by decide)
        · refine lv_aload_n hx hb dX9_valueOf_71 rfl (lv_at hl 1 rfl) ?_
          refine lv_iconst (v := 2) hx hb dX9_valueOf_72 (by decide) ?_
          refine done_i hw (my_runV (As := [.int 2]) (rest := []) C hw 15 9 (hF 15 (by decide)) rfl rfl (mt_X9_fail l C.2.2.2.2.2.2.2 hF _ _ h) K_m_X9_157 K_i_X9_fail K_v_X9_fail K_n_X9 K_c_X9_fail hy_X9_fail ⟨Nat.le_of_ble_eq_true rfl, Nat.le_of_ble_eq_true rfl⟩ hl.1 rfl (Nat.le_of_ble_eq_true rfl) dX9_valueOf_73 ⟨Nat.zero_le _, Nat.zero_le _⟩) (fun r9 w10 H locs h hw => ?_)
          rw [hQ]
          exact ret_i C hr hlk hw h dX9_valueOf_76
      · have h := h.2 c13
        refine lv_iload_n hx hb dX9_valueOf_30 rfl (lv_at hl 2 rfl) ?_
        refine lv_iconst (v := 2) hx hb dX9_valueOf_31 (by decide) ?_
        refine lv_aload_n hx hb dX9_valueOf_32 rfl (lv_at hl 0 rfl) ?_
        refine lv_iload_n hx hb dX9_valueOf_33 rfl (lv_at hl 1 rfl) ?_
        refine lv_iconst (v := 0) hx hb dX9_valueOf_34 (by decide) ?_
        refine done_i hw (my_runV (As := [.int p1, .int 0]) (rest := [.int 2, .int p2]) C hw 15 9 (hF 15 (by decide)) rfl rfl (mt_X9_of l C.2.2.2.2.2.2.2 hF _ _ _ h) K_m_X9_173 K_i_X9_of K_v_X9_of K_n_X9 K_c_X9_of hy_X9_of ⟨Nat.le_of_ble_eq_true rfl, Nat.le_of_ble_eq_true rfl⟩ hl.1 rfl (Nat.le_of_ble_eq_true rfl) dX9_valueOf_35 ⟨Nat.zero_le _, Nat.zero_le _⟩) (fun r10 w11 H locs h hw => ?_)
        refine lv_ishl hx hb dX9_valueOf_38 ?_
        refine lv_icmp_ge (tgt := 65) hx hb dX9_valueOf_39 (by decide) (fun c15 => ?_) (fun c15 => ?_)
        · have h := h.1 c15
          refine lv_iconst (v := 0) hx hb dX9_valueOf_65 (by decide) ?_
          refine lv_istore_n (lv' := [(3, .int 0), (0, .ref (eA E 15)), (1, .int p1), (2, .int p2)]) hx hb dX9_valueOf_66 rfl hl (by decide) rfl (fun ls hl => ?_)
          refine lv_iload_n hx hb dX9_valueOf_67 rfl (lv_at hl 0 rfl) ?_
          refine lv_if_ne (tgt := 77) hx hb dX9_valueOf_68 (by decide) (fun c16 => ?_) (fun c16 => ?_)
          · exact absurd c16 (by decide)
          · refine lv_aload_n hx hb dX9_valueOf_71 rfl (lv_at hl 1 rfl) ?_
            refine lv_iconst (v := 2) hx hb dX9_valueOf_72 (by decide) ?_
            refine done_i hw (my_runV (As := [.int 2]) (rest := []) C hw 15 9 (hF 15 (by decide)) rfl rfl (mt_X9_fail l C.2.2.2.2.2.2.2 hF _ _ h) K_m_X9_157 K_i_X9_fail K_v_X9_fail K_n_X9 K_c_X9_fail hy_X9_fail ⟨Nat.le_of_ble_eq_true rfl, Nat.le_of_ble_eq_true rfl⟩ hl.1 rfl (Nat.le_of_ble_eq_true rfl) dX9_valueOf_73 ⟨Nat.zero_le _, Nat.zero_le _⟩) (fun r11 w12 H locs h hw => ?_)
            rw [hQ]
            exact ret_i C hr hlk hw h dX9_valueOf_76
        · have h := h.2 c15
          refine lv_iload_n hx hb dX9_valueOf_42 rfl (lv_at hl 2 rfl) ?_
          refine lv_iconst (v := 2) hx hb dX9_valueOf_43 (by decide) ?_
          refine lv_irem hx hb dX9_valueOf_44 (by decide) ?_
          refine lv_if_ne (tgt := 65) hx hb dX9_valueOf_45 (by decide) (fun c17 => ?_) (fun c17 => ?_)
          · have h := h.2 c17
            refine lv_iconst (v := 0) hx hb dX9_valueOf_65 (by decide) ?_
            refine lv_istore_n (lv' := [(3, .int 0), (0, .ref (eA E 15)), (1, .int p1), (2, .int p2)]) hx hb dX9_valueOf_66 rfl hl (by decide) rfl (fun ls hl => ?_)
            refine lv_iload_n hx hb dX9_valueOf_67 rfl (lv_at hl 0 rfl) ?_
            refine lv_if_ne (tgt := 77) hx hb dX9_valueOf_68 (by decide) (fun c18 => ?_) (fun c18 => ?_)
            · exact absurd c18 (by decide)
            · refine lv_aload_n hx hb dX9_valueOf_71 rfl (lv_at hl 1 rfl) ?_
              refine lv_iconst (v := 2) hx hb dX9_valueOf_72 (by decide) ?_
              refine done_i hw (my_runV (As := [.int 2]) (rest := []) C hw 15 9 (hF 15 (by decide)) rfl rfl (mt_X9_fail l C.2.2.2.2.2.2.2 hF _ _ h) K_m_X9_157 K_i_X9_fail K_v_X9_fail K_n_X9 K_c_X9_fail hy_X9_fail ⟨Nat.le_of_ble_eq_true rfl, Nat.le_of_ble_eq_true rfl⟩ hl.1 rfl (Nat.le_of_ble_eq_true rfl) dX9_valueOf_73 ⟨Nat.zero_le _, Nat.zero_le _⟩) (fun r12 w13 H locs h hw => ?_)
              rw [hQ]
              exact ret_i C hr hlk hw h dX9_valueOf_76
          · have h := h.1 c17
            refine lv_iload_n hx hb dX9_valueOf_48 rfl (lv_at hl 2 rfl) ?_
            refine done_i hw (my_runS (As := [.int p2]) (rest := []) C hw (mt_X9_bits l C.2.2.2.2.2.2.2 hF _ _ h) K_m_X9_128 K_s_X9_bits K_n_X9 K_c_X9_bits hy_X9_bits ⟨Nat.le_of_ble_eq_true rfl, Nat.le_of_ble_eq_true rfl⟩ hl.1 rfl (Nat.le_of_ble_eq_true rfl) dX9_valueOf_49 ⟨Nat.zero_le _, Nat.zero_le _⟩) (fun r13 w14 H locs h hw => ?_)
            refine lv_aload_n hx hb dX9_valueOf_52 rfl (lv_at hl 0 rfl) ?_
            refine lv_iload_n hx hb dX9_valueOf_53 rfl (lv_at hl 1 rfl) ?_
            refine lv_iconst (v := 1) hx hb dX9_valueOf_54 (by decide) ?_
            refine done_i hw (my_runV (As := [.int p1, .int 1]) (rest := [.int r13]) C hw 15 9 (hF 15 (by decide)) rfl rfl (mt_X9_of l C.2.2.2.2.2.2.2 hF _ _ _ h) K_m_X9_173 K_i_X9_of K_v_X9_of K_n_X9 K_c_X9_of hy_X9_of ⟨Nat.le_of_ble_eq_true rfl, Nat.le_of_ble_eq_true rfl⟩ hl.1 rfl (Nat.le_of_ble_eq_true rfl) dX9_valueOf_55 ⟨Nat.zero_le _, Nat.zero_le _⟩) (fun r14 w15 H locs h hw => ?_)
            refine lv_icmp_gt (tgt := 65) hx hb dX9_valueOf_58 (by decide) (fun c19 => ?_) (fun c19 => ?_)
            · have h := h.1 c19
              refine lv_iconst (v := 0) hx hb dX9_valueOf_65 (by decide) ?_
              refine lv_istore_n (lv' := [(3, .int 0), (0, .ref (eA E 15)), (1, .int p1), (2, .int p2)]) hx hb dX9_valueOf_66 rfl hl (by decide) rfl (fun ls hl => ?_)
              refine lv_iload_n hx hb dX9_valueOf_67 rfl (lv_at hl 0 rfl) ?_
              refine lv_if_ne (tgt := 77) hx hb dX9_valueOf_68 (by decide) (fun c20 => ?_) (fun c20 => ?_)
              · exact absurd c20 (by decide)
              · refine lv_aload_n hx hb dX9_valueOf_71 rfl (lv_at hl 1 rfl) ?_
                refine lv_iconst (v := 2) hx hb dX9_valueOf_72 (by decide) ?_
                refine done_i hw (my_runV (As := [.int 2]) (rest := []) C hw 15 9 (hF 15 (by decide)) rfl rfl (mt_X9_fail l C.2.2.2.2.2.2.2 hF _ _ h) K_m_X9_157 K_i_X9_fail K_v_X9_fail K_n_X9 K_c_X9_fail hy_X9_fail ⟨Nat.le_of_ble_eq_true rfl, Nat.le_of_ble_eq_true rfl⟩ hl.1 rfl (Nat.le_of_ble_eq_true rfl) dX9_valueOf_73 ⟨Nat.zero_le _, Nat.zero_le _⟩) (fun r15 w16 H locs h hw => ?_)
                rw [hQ]
                exact ret_i C hr hlk hw h dX9_valueOf_76
            · have h := h.2 c19
              refine lv_iconst (v := 1) hx hb dX9_valueOf_61 (by decide) ?_
              refine lv_goto (tgt := 66) hx hb dX9_valueOf_62 (by decide) ?_
              refine lv_istore_n (lv' := [(3, .int 1), (0, .ref (eA E 15)), (1, .int p1), (2, .int p2)]) hx hb dX9_valueOf_66 rfl hl (by decide) rfl (fun ls hl => ?_)
              refine lv_iload_n hx hb dX9_valueOf_67 rfl (lv_at hl 0 rfl) ?_
              refine lv_if_ne (tgt := 77) hx hb dX9_valueOf_68 (by decide) (fun c21 => ?_) (fun c21 => ?_)
              · refine lv_aload_n hx hb dX9_valueOf_77 rfl (lv_at hl 1 rfl) ?_
                refine lv_iload_n hx hb dX9_valueOf_78 rfl (lv_at hl 2 rfl) ?_
                refine done_v hw (my_runV (As := [.int p1]) (rest := []) C hw 15 9 (hF 15 (by decide)) rfl rfl (mt_X9_lays l C.2.2.2.2.2.2.2 hF _ _ h) K_m_X9_184 K_i_X9_lays K_v_X9_lays K_n_X9 K_c_X9_lays hy_X9_lays ⟨Nat.le_of_ble_eq_true rfl, Nat.le_of_ble_eq_true rfl⟩ hl.1 rfl (Nat.le_of_ble_eq_true rfl) dX9_valueOf_79 ⟨Nat.zero_le _, Nat.zero_le _⟩) (fun w17 H locs h hw => ?_)
                refine lv_aload_n hx hb dX9_valueOf_82 rfl (lv_at hl 1 rfl) ?_
                refine g9_18 C hw (hF 15 (by decide)) K_f_X9_30 dX9_valueOf_83 ?_
                refine lv_iload_n hx hb dX9_valueOf_86 rfl (lv_at hl 3 rfl) ?_
                obtain ⟨hi2, h⟩ := h
                refine r_iald C hw 22 8192 (hF 22 (by decide)) rfl hi2 dX9_valueOf_87 ?_
                rw [hQ]
                exact ret_i C hr hlk hw h dX9_valueOf_88
              · exact absurd c21 (by decide)
    · have h := h.2 c12
      refine lv_iconst (v := 0) hx hb dX9_valueOf_24 (by decide) ?_
      rw [hQ]
      exact ret_i C hr hlk hw h dX9_valueOf_25
theorem hy_X9_sum : yX9_sum.cls ≠ "java/lang/invoke/MethodHandle" ∧ yX9_sum.cls ≠ "java/lang/invoke/VarHandle" ∧ (parseMethodDescriptor yX9_sum.desc).map (fun d => d.parameters.length) = some 0 := by decide +kernel
def wp_X9_sum (w : Wd) (Post : Int32 → Wd → Prop) : Prop :=
  wp_X9_sumNow (sI w 15 0 0) (fun r1 w1 => Post r1 w1)
set_option maxHeartbeats 4000000 in
set_option maxRecDepth 100000 in
theorem mt_X9_sum (l : Launch) {E : En} (hI : Inj E) (hF : ∀ o, (15 ≤ o ∧ o < 25) → o ∈ eL E) (w : Wd) {Post : Int32 → Wd → Prop} (h : wp_X9_sum w Post) : MI l E yX9_sum cX9_sum 1 (some .int) 7 161 [.ref (eA E 15)] w Post := by
  refine MG.intro hI (by decide +kernel) (Nat.le_of_ble_eq_true rfl) ?_
  intro p e s m args below meth c Q C hr hlk hQ hw ls hl
  have hx := C.1
  have hb := C.2.1
  have hl : lv_has ls 1 [(0, .ref (eA E 15))] := hl
  unfold wp_X9_sum at h
  refine lv_aload_n hx hb dX9_sum_0 rfl (lv_at hl 0 rfl) ?_
  refine lv_iconst (v := 0) hx hb dX9_sum_1 (by decide) ?_
  refine p9_0 C hw (hF 15 (by decide)) K_f_X9_45 dX9_sum_2 (fun H locs hw => ?_)
  refine lv_aload_n hx hb dX9_sum_5 rfl (lv_at hl 0 rfl) ?_
  refine done_i hw (my_runV (As := []) (rest := []) C hw 15 9 (hF 15 (by decide)) rfl rfl (mt_X9_sumNow l C.2.2.2.2.2.2.2 hF _ h) K_m_X9_201 K_i_X9_sumNow K_v_X9_sumNow K_n_X9 K_c_X9_sumNow hy_X9_sumNow ⟨Nat.le_of_ble_eq_true rfl, Nat.le_of_ble_eq_true rfl⟩ hl.1 rfl (Nat.le_of_ble_eq_true rfl) dX9_sum_6 ⟨Nat.zero_le _, Nat.zero_le _⟩) (fun r1 w1 H locs h hw => ?_)
  rw [hQ]
  exact ret_i C hr hlk hw h dX9_sum_9
theorem hy_X9_stepsOn : yX9_stepsOn.cls ≠ "java/lang/invoke/MethodHandle" ∧ yX9_stepsOn.cls ≠ "java/lang/invoke/VarHandle" ∧ (parseMethodDescriptor yX9_stepsOn.desc).map (fun d => d.parameters.length) = some 1 := by decide +kernel
def wp_X9_stepsOn (w : Wd) (p1 : Int32) (Post : Int32 → Wd → Prop) : Prop :=
  wp_X9_isLadder w p1 (fun r1 w1 => (r1 = 0 → (((gI (sI w1 15 0 1) 15 0) = 0 → (wp_X9_of (sI w1 15 0 1) p1 2 (fun r2 w2 => wp_X9_stepsFrom w2 p1 r2 (fun r3 w3 => Post r3 w3)))) ∧ (¬ (gI (sI w1 15 0 1) 15 0) = 0 → (Post 0 (sI w1 15 0 1))))) ∧ (¬ r1 = 0 → (((gI (sI w1 15 0 0) 15 0) = 0 → (wp_X9_of (sI w1 15 0 0) p1 2 (fun r4 w4 => wp_X9_stepsFrom w4 p1 r4 (fun r5 w5 => Post r5 w5)))) ∧ (¬ (gI (sI w1 15 0 0) 15 0) = 0 → (Post 0 (sI w1 15 0 0))))))
set_option maxHeartbeats 4000000 in
set_option maxRecDepth 100000 in
theorem mt_X9_stepsOn (l : Launch) {E : En} (hI : Inj E) (hF : ∀ o, (15 ≤ o ∧ o < 25) → o ∈ eL E) (w : Wd) (p1 : Int32) {Post : Int32 → Wd → Prop} (h : wp_X9_stepsOn w p1 Post) : MI l E yX9_stepsOn cX9_stepsOn 2 (some .int) 4 93 [.ref (eA E 15), .int p1] w Post := by
  refine MG.intro hI (by decide +kernel) (Nat.le_of_ble_eq_true rfl) ?_
  intro p e s m args below meth c Q C hr hlk hQ hw ls hl
  have hx := C.1
  have hb := C.2.1
  have hl : lv_has ls 2 [(0, .ref (eA E 15)), (1, .int p1)] := hl
  unfold wp_X9_stepsOn at h
  refine lv_aload_n hx hb dX9_stepsOn_0 rfl (lv_at hl 0 rfl) ?_
  refine lv_aload_n hx hb dX9_stepsOn_1 rfl (lv_at hl 0 rfl) ?_
  refine lv_iload_n hx hb dX9_stepsOn_2 rfl (lv_at hl 1 rfl) ?_
  refine done_i hw (my_runV (As := [.int p1]) (rest := [.ref (eA E 15)]) C hw 15 9 (hF 15 (by decide)) rfl rfl (mt_X9_isLadder l C.2.2.2.2.2.2.2 hF _ _ h) K_m_X9_197 K_i_X9_isLadder K_v_X9_isLadder K_n_X9 K_c_X9_isLadder hy_X9_isLadder ⟨Nat.le_of_ble_eq_true rfl, Nat.le_of_ble_eq_true rfl⟩ hl.1 rfl (Nat.le_of_ble_eq_true rfl) dX9_stepsOn_3 ⟨Nat.zero_le _, Nat.zero_le _⟩) (fun r1 w1 H locs h hw => ?_)
  refine lv_if_eq (tgt := 13) hx hb dX9_stepsOn_6 (by decide) (fun c1 => ?_) (fun c1 => ?_)
  · have h := h.1 c1
    refine lv_iconst (v := 1) hx hb dX9_stepsOn_13 (by decide) ?_
    refine p9_0 C hw (hF 15 (by decide)) K_f_X9_45 dX9_stepsOn_14 (fun H locs hw => ?_)
    refine lv_aload_n hx hb dX9_stepsOn_17 rfl (lv_at hl 0 rfl) ?_
    refine g9_0 C hw (hF 15 (by decide)) K_f_X9_45 dX9_stepsOn_18 ?_
    refine lv_if_ne (tgt := 38) hx hb dX9_stepsOn_21 (by decide) (fun c2 => ?_) (fun c2 => ?_)
    · have h := h.2 c2
      refine lv_iconst (v := 0) hx hb dX9_stepsOn_38 (by decide) ?_
      rw [hQ]
      exact ret_i C hr hlk hw h dX9_stepsOn_39
    · have h := h.1 c2
      refine lv_aload_n hx hb dX9_stepsOn_24 rfl (lv_at hl 0 rfl) ?_
      refine lv_iload_n hx hb dX9_stepsOn_25 rfl (lv_at hl 1 rfl) ?_
      refine lv_aload_n hx hb dX9_stepsOn_26 rfl (lv_at hl 0 rfl) ?_
      refine lv_iload_n hx hb dX9_stepsOn_27 rfl (lv_at hl 1 rfl) ?_
      refine lv_iconst (v := 2) hx hb dX9_stepsOn_28 (by decide) ?_
      refine done_i hw (my_runV (As := [.int p1, .int 2]) (rest := [.int p1, .ref (eA E 15)]) C hw 15 9 (hF 15 (by decide)) rfl rfl (mt_X9_of l C.2.2.2.2.2.2.2 hF _ _ _ h) K_m_X9_173 K_i_X9_of K_v_X9_of K_n_X9 K_c_X9_of hy_X9_of ⟨Nat.le_of_ble_eq_true rfl, Nat.le_of_ble_eq_true rfl⟩ hl.1 rfl (Nat.le_of_ble_eq_true rfl) dX9_stepsOn_29 ⟨Nat.zero_le _, Nat.zero_le _⟩) (fun r2 w2 H locs h hw => ?_)
      refine done_i hw (my_runV (As := [.int p1, .int r2]) (rest := []) C hw 15 9 (hF 15 (by decide)) rfl rfl (mt_X9_stepsFrom l C.2.2.2.2.2.2.2 hF _ _ _ h) K_m_X9_190 K_i_X9_stepsFrom K_v_X9_stepsFrom K_n_X9 K_c_X9_stepsFrom hy_X9_stepsFrom ⟨Nat.le_of_ble_eq_true rfl, Nat.le_of_ble_eq_true rfl⟩ hl.1 rfl (Nat.le_of_ble_eq_true rfl) dX9_stepsOn_32 ⟨Nat.zero_le _, Nat.zero_le _⟩) (fun r3 w3 H locs h hw => ?_)
      refine lv_goto (tgt := 39) hx hb dX9_stepsOn_35 (by decide) ?_
      rw [hQ]
      exact ret_i C hr hlk hw h dX9_stepsOn_39
  · have h := h.2 c1
    refine lv_iconst (v := 0) hx hb dX9_stepsOn_9 (by decide) ?_
    refine lv_goto (tgt := 14) hx hb dX9_stepsOn_10 (by decide) ?_
    refine p9_0 C hw (hF 15 (by decide)) K_f_X9_45 dX9_stepsOn_14 (fun H locs hw => ?_)
    refine lv_aload_n hx hb dX9_stepsOn_17 rfl (lv_at hl 0 rfl) ?_
    refine g9_0 C hw (hF 15 (by decide)) K_f_X9_45 dX9_stepsOn_18 ?_
    refine lv_if_ne (tgt := 38) hx hb dX9_stepsOn_21 (by decide) (fun c3 => ?_) (fun c3 => ?_)
    · have h := h.2 c3
      refine lv_iconst (v := 0) hx hb dX9_stepsOn_38 (by decide) ?_
      rw [hQ]
      exact ret_i C hr hlk hw h dX9_stepsOn_39
    · have h := h.1 c3
      refine lv_aload_n hx hb dX9_stepsOn_24 rfl (lv_at hl 0 rfl) ?_
      refine lv_iload_n hx hb dX9_stepsOn_25 rfl (lv_at hl 1 rfl) ?_
      refine lv_aload_n hx hb dX9_stepsOn_26 rfl (lv_at hl 0 rfl) ?_
      refine lv_iload_n hx hb dX9_stepsOn_27 rfl (lv_at hl 1 rfl) ?_
      refine lv_iconst (v := 2) hx hb dX9_stepsOn_28 (by decide) ?_
      refine done_i hw (my_runV (As := [.int p1, .int 2]) (rest := [.int p1, .ref (eA E 15)]) C hw 15 9 (hF 15 (by decide)) rfl rfl (mt_X9_of l C.2.2.2.2.2.2.2 hF _ _ _ h) K_m_X9_173 K_i_X9_of K_v_X9_of K_n_X9 K_c_X9_of hy_X9_of ⟨Nat.le_of_ble_eq_true rfl, Nat.le_of_ble_eq_true rfl⟩ hl.1 rfl (Nat.le_of_ble_eq_true rfl) dX9_stepsOn_29 ⟨Nat.zero_le _, Nat.zero_le _⟩) (fun r4 w4 H locs h hw => ?_)
      refine done_i hw (my_runV (As := [.int p1, .int r4]) (rest := []) C hw 15 9 (hF 15 (by decide)) rfl rfl (mt_X9_stepsFrom l C.2.2.2.2.2.2.2 hF _ _ _ h) K_m_X9_190 K_i_X9_stepsFrom K_v_X9_stepsFrom K_n_X9 K_c_X9_stepsFrom hy_X9_stepsFrom ⟨Nat.le_of_ble_eq_true rfl, Nat.le_of_ble_eq_true rfl⟩ hl.1 rfl (Nat.le_of_ble_eq_true rfl) dX9_stepsOn_32 ⟨Nat.zero_le _, Nat.zero_le _⟩) (fun r5 w5 H locs h hw => ?_)
      refine lv_goto (tgt := 39) hx hb dX9_stepsOn_35 (by decide) ?_
      rw [hQ]
      exact ret_i C hr hlk hw h dX9_stepsOn_39
theorem hy_X9_longest : yX9_longest.cls ≠ "java/lang/invoke/MethodHandle" ∧ yX9_longest.cls ≠ "java/lang/invoke/VarHandle" ∧ (parseMethodDescriptor yX9_longest.desc).map (fun d => d.parameters.length) = some 1 := by decide +kernel
def wp_X9_longest (w : Wd) (p1 : Int32) (Post : Int32 → Wd → Prop) : Prop :=
  wp_X9_isLadder w p1 (fun r1 w1 => (r1 = 0 → (((gI (sI w1 15 0 1) 15 0) ≤ 0 → (wp_X9_lays (sI w1 15 0 1) p1 (fun w2 => wp_X9_of w2 p1 2 (fun r2 w3 => vp_in r2 8192 ∧ (Post (gA w3 23 r2.toNatClampNeg) w3))))) ∧ (¬ (gI (sI w1 15 0 1) 15 0) ≤ 0 → (Post 0 (sI w1 15 0 1))))) ∧ (¬ r1 = 0 → (((gI (sI w1 15 0 0) 15 0) ≤ 0 → (wp_X9_lays (sI w1 15 0 0) p1 (fun w4 => wp_X9_of w4 p1 2 (fun r3 w5 => vp_in r3 8192 ∧ (Post (gA w5 23 r3.toNatClampNeg) w5))))) ∧ (¬ (gI (sI w1 15 0 0) 15 0) ≤ 0 → (Post 0 (sI w1 15 0 0))))))
set_option maxHeartbeats 4000000 in
set_option maxRecDepth 100000 in
theorem mt_X9_longest (l : Launch) {E : En} (hI : Inj E) (hF : ∀ o, (15 ≤ o ∧ o < 25) → o ∈ eL E) (w : Wd) (p1 : Int32) {Post : Int32 → Wd → Prop} (h : wp_X9_longest w p1 Post) : MI l E yX9_longest cX9_longest 2 (some .int) 5 118 [.ref (eA E 15), .int p1] w Post := by
  refine MG.intro hI (by decide +kernel) (Nat.le_of_ble_eq_true rfl) ?_
  intro p e s m args below meth c Q C hr hlk hQ hw ls hl
  have hx := C.1
  have hb := C.2.1
  have hl : lv_has ls 2 [(0, .ref (eA E 15)), (1, .int p1)] := hl
  unfold wp_X9_longest at h
  refine lv_aload_n hx hb dX9_longest_0 rfl (lv_at hl 0 rfl) ?_
  refine lv_aload_n hx hb dX9_longest_1 rfl (lv_at hl 0 rfl) ?_
  refine lv_iload_n hx hb dX9_longest_2 rfl (lv_at hl 1 rfl) ?_
  refine done_i hw (my_runV (As := [.int p1]) (rest := [.ref (eA E 15)]) C hw 15 9 (hF 15 (by decide)) rfl rfl (mt_X9_isLadder l C.2.2.2.2.2.2.2 hF _ _ h) K_m_X9_197 K_i_X9_isLadder K_v_X9_isLadder K_n_X9 K_c_X9_isLadder hy_X9_isLadder ⟨Nat.le_of_ble_eq_true rfl, Nat.le_of_ble_eq_true rfl⟩ hl.1 rfl (Nat.le_of_ble_eq_true rfl) dX9_longest_3 ⟨Nat.zero_le _, Nat.zero_le _⟩) (fun r1 w1 H locs h hw => ?_)
  refine lv_if_eq (tgt := 13) hx hb dX9_longest_6 (by decide) (fun c1 => ?_) (fun c1 => ?_)
  · have h := h.1 c1
    refine lv_iconst (v := 1) hx hb dX9_longest_13 (by decide) ?_
    refine p9_0 C hw (hF 15 (by decide)) K_f_X9_45 dX9_longest_14 (fun H locs hw => ?_)
    refine lv_aload_n hx hb dX9_longest_17 rfl (lv_at hl 0 rfl) ?_
    refine g9_0 C hw (hF 15 (by decide)) K_f_X9_45 dX9_longest_18 ?_
    refine lv_if_le (tgt := 26) hx hb dX9_longest_21 (by decide) (fun c2 => ?_) (fun c2 => ?_)
    · have h := h.1 c2
      refine lv_aload_n hx hb dX9_longest_26 rfl (lv_at hl 0 rfl) ?_
      refine lv_iload_n hx hb dX9_longest_27 rfl (lv_at hl 1 rfl) ?_
      refine done_v hw (my_runV (As := [.int p1]) (rest := []) C hw 15 9 (hF 15 (by decide)) rfl rfl (mt_X9_lays l C.2.2.2.2.2.2.2 hF _ _ h) K_m_X9_184 K_i_X9_lays K_v_X9_lays K_n_X9 K_c_X9_lays hy_X9_lays ⟨Nat.le_of_ble_eq_true rfl, Nat.le_of_ble_eq_true rfl⟩ hl.1 rfl (Nat.le_of_ble_eq_true rfl) dX9_longest_28 ⟨Nat.zero_le _, Nat.zero_le _⟩) (fun w2 H locs h hw => ?_)
      refine lv_aload_n hx hb dX9_longest_31 rfl (lv_at hl 0 rfl) ?_
      refine g9_19 C hw (hF 15 (by decide)) K_f_X9_33 dX9_longest_32 ?_
      refine lv_aload_n hx hb dX9_longest_35 rfl (lv_at hl 0 rfl) ?_
      refine lv_iload_n hx hb dX9_longest_36 rfl (lv_at hl 1 rfl) ?_
      refine lv_iconst (v := 2) hx hb dX9_longest_37 (by decide) ?_
      refine done_i hw (my_runV (As := [.int p1, .int 2]) (rest := [.ref (eA E 23)]) C hw 15 9 (hF 15 (by decide)) rfl rfl (mt_X9_of l C.2.2.2.2.2.2.2 hF _ _ _ h) K_m_X9_173 K_i_X9_of K_v_X9_of K_n_X9 K_c_X9_of hy_X9_of ⟨Nat.le_of_ble_eq_true rfl, Nat.le_of_ble_eq_true rfl⟩ hl.1 rfl (Nat.le_of_ble_eq_true rfl) dX9_longest_38 ⟨Nat.zero_le _, Nat.zero_le _⟩) (fun r2 w3 H locs h hw => ?_)
      obtain ⟨hi1, h⟩ := h
      refine r_iald C hw 23 8192 (hF 23 (by decide)) rfl hi1 dX9_longest_41 ?_
      rw [hQ]
      exact ret_i C hr hlk hw h dX9_longest_42
    · have h := h.2 c2
      refine lv_iconst (v := 0) hx hb dX9_longest_24 (by decide) ?_
      rw [hQ]
      exact ret_i C hr hlk hw h dX9_longest_25
  · have h := h.2 c1
    refine lv_iconst (v := 0) hx hb dX9_longest_9 (by decide) ?_
    refine lv_goto (tgt := 14) hx hb dX9_longest_10 (by decide) ?_
    refine p9_0 C hw (hF 15 (by decide)) K_f_X9_45 dX9_longest_14 (fun H locs hw => ?_)
    refine lv_aload_n hx hb dX9_longest_17 rfl (lv_at hl 0 rfl) ?_
    refine g9_0 C hw (hF 15 (by decide)) K_f_X9_45 dX9_longest_18 ?_
    refine lv_if_le (tgt := 26) hx hb dX9_longest_21 (by decide) (fun c3 => ?_) (fun c3 => ?_)
    · have h := h.1 c3
      refine lv_aload_n hx hb dX9_longest_26 rfl (lv_at hl 0 rfl) ?_
      refine lv_iload_n hx hb dX9_longest_27 rfl (lv_at hl 1 rfl) ?_
      refine done_v hw (my_runV (As := [.int p1]) (rest := []) C hw 15 9 (hF 15 (by decide)) rfl rfl (mt_X9_lays l C.2.2.2.2.2.2.2 hF _ _ h) K_m_X9_184 K_i_X9_lays K_v_X9_lays K_n_X9 K_c_X9_lays hy_X9_lays ⟨Nat.le_of_ble_eq_true rfl, Nat.le_of_ble_eq_true rfl⟩ hl.1 rfl (Nat.le_of_ble_eq_true rfl) dX9_longest_28 ⟨Nat.zero_le _, Nat.zero_le _⟩) (fun w4 H locs h hw => ?_)
      refine lv_aload_n hx hb dX9_longest_31 rfl (lv_at hl 0 rfl) ?_
      refine g9_19 C hw (hF 15 (by decide)) K_f_X9_33 dX9_longest_32 ?_
      refine lv_aload_n hx hb dX9_longest_35 rfl (lv_at hl 0 rfl) ?_
      refine lv_iload_n hx hb dX9_longest_36 rfl (lv_at hl 1 rfl) ?_
      refine lv_iconst (v := 2) hx hb dX9_longest_37 (by decide) ?_
      refine done_i hw (my_runV (As := [.int p1, .int 2]) (rest := [.ref (eA E 23)]) C hw 15 9 (hF 15 (by decide)) rfl rfl (mt_X9_of l C.2.2.2.2.2.2.2 hF _ _ _ h) K_m_X9_173 K_i_X9_of K_v_X9_of K_n_X9 K_c_X9_of hy_X9_of ⟨Nat.le_of_ble_eq_true rfl, Nat.le_of_ble_eq_true rfl⟩ hl.1 rfl (Nat.le_of_ble_eq_true rfl) dX9_longest_38 ⟨Nat.zero_le _, Nat.zero_le _⟩) (fun r3 w5 H locs h hw => ?_)
      obtain ⟨hi2, h⟩ := h
      refine r_iald C hw 23 8192 (hF 23 (by decide)) rfl hi2 dX9_longest_41 ?_
      rw [hQ]
      exact ret_i C hr hlk hw h dX9_longest_42
    · have h := h.2 c3
      refine lv_iconst (v := 0) hx hb dX9_longest_24 (by decide) ?_
      rw [hQ]
      exact ret_i C hr hlk hw h dX9_longest_25
theorem hy_X9_marks : yX9_marks.cls ≠ "java/lang/invoke/MethodHandle" ∧ yX9_marks.cls ≠ "java/lang/invoke/VarHandle" ∧ (parseMethodDescriptor yX9_marks.desc).map (fun d => d.parameters.length) = some 2 := by decide +kernel
def wp_X9_marks (w : Wd) (p1 : Int32) (p2 : Int32) (Post : Wd → Prop) : Prop :=
  ∀ J2 : Int32 → Wd → Prop, ∀ J15 : Int32 → Int32 → Wd → Prop, (∀ (x3 : Int32) (w : Wd), (wp_X9_of w p1 0 (fun r1 w1 => (r1 < x3 → (Post w1)) ∧ (¬ r1 < x3 → (J15 x3 1 w1)))) → J2 x3 w) →
  (∀ (x3 : Int32) (x4 : Int32) (w : Wd), ((12 < x4 → (∀ y1 : Int32, y1 = x3 + 1 → (J2 y1 w))) ∧ (¬ 12 < x4 → (wp_X9_has w p2 x3 (fun r2 w2 => (r2 = 0 → (∀ y2 : Int32, y2 = x3 + 1 → (J2 y2 w2))) ∧ (¬ r2 = 0 → (wp_X9_of w2 p1 4 (fun r3 w3 => wp_X9_has w3 r3 x4 (fun r4 w4 => (r4 = 0 → (∀ y3 : Int32, y3 = x4 + 1 → (J15 x3 y3 w4))) ∧ (¬ r4 = 0 → (wp_X9_behind w4 p1 p2 x3 x4 (fun r5 w5 => (r5 = ((-1)) → (∀ y4 : Int32, y4 = x4 + 1 → (J15 x3 y4 w5))) ∧ (¬ r5 = ((-1)) → (vp_in r5 8192 ∧ (∀ y5 : Int32, y5 = x4 + 1 → (J15 x3 y5 (sA w5 24 r5.toNatClampNeg (vp_nar .boolean 1))))))))))))))))) → J15 x3 x4 w) →
  J2 1 w
set_option maxHeartbeats 4000000 in
set_option maxRecDepth 100000 in
theorem mt_X9_marks (l : Launch) {E : En} (hI : Inj E) (hF : ∀ o, (15 ≤ o ∧ o < 25) → o ∈ eL E) (w : Wd) (p1 : Int32) (p2 : Int32) {Post : Wd → Prop} (h : wp_X9_marks w p1 p2 Post) : MV l E yX9_marks cX9_marks 6 none 3 68 [.ref (eA E 15), .int p1, .int p2] w Post := by
  refine MG.intro hI (by decide +kernel) (Nat.le_of_ble_eq_true rfl) ?_
  intro p e s m args below meth c Q C hr hlk hQ hw ls hl
  have hx := C.1
  have hb := C.2.1
  have hl : lv_has ls 6 [(0, .ref (eA E 15)), (1, .int p1), (2, .int p2)] := hl
  unfold wp_X9_marks at h
  have h := h (fun x3 w => Jp E p l e (Rm 3 68) s m args below meth c Q 6 2 [(0, .ref (eA E 15)), (1, .int p1), (2, .int p2), (3, .int x3)] w)
  have h := h (fun x3 x4 w => Jp E p l e (Rm 3 68) s m args below meth c Q 6 15 [(0, .ref (eA E 15)), (1, .int p1), (2, .int p2), (3, .int x3), (4, .int x4)] w)
  have h := h ?_
  rotate_left
  · intro x3 w h H locs hw ls hl
    refine lv_iload_n hx hb dX9_marks_2 rfl (lv_at hl 3 rfl) ?_
    refine lv_aload_n hx hb dX9_marks_3 rfl (lv_at hl 0 rfl) ?_
    refine lv_iload_n hx hb dX9_marks_4 rfl (lv_at hl 1 rfl) ?_
    refine lv_iconst (v := 0) hx hb dX9_marks_5 (by decide) ?_
    refine done_i hw (my_runV (As := [.int p1, .int 0]) (rest := [.int x3]) C hw 15 9 (hF 15 (by decide)) rfl rfl (mt_X9_of l C.2.2.2.2.2.2.2 hF _ _ _ h) K_m_X9_173 K_i_X9_of K_v_X9_of K_n_X9 K_c_X9_of hy_X9_of ⟨Nat.le_of_ble_eq_true rfl, Nat.le_of_ble_eq_true rfl⟩ hl.1 rfl (Nat.le_of_ble_eq_true rfl) dX9_marks_6 ⟨Nat.zero_le _, Nat.zero_le _⟩) (fun r1 w1 H locs h hw => ?_)
    refine lv_icmp_gt (tgt := 85) hx hb dX9_marks_9 (by decide) (fun c1 => ?_) (fun c1 => ?_)
    · have h := h.1 c1
      rw [hQ]
      exact ret_v C hr hlk hw h dX9_marks_85
    · have h := h.2 c1
      refine lv_iconst (v := 1) hx hb dX9_marks_12 (by decide) ?_
      refine lv_istore (lv' := [(4, .int 1), (0, .ref (eA E 15)), (1, .int p1), (2, .int p2), (3, .int x3)]) hx hb dX9_marks_13 hl (by decide) rfl (fun ls hl => ?_)
      exact h _ _ hw _ (lv_sub hl [1, 2, 3, 4, 0] rfl)
  have h := h ?_
  rotate_left
  · intro x3 x4 w h H locs hw ls hl
    refine lv_iload hx hb dX9_marks_15 (lv_at hl 4 rfl) ?_
    refine lv_bipush (v := 12) hx hb dX9_marks_17 (by decide) ?_
    refine lv_icmp_gt (tgt := 79) hx hb dX9_marks_19 (by decide) (fun c2 => ?_) (fun c2 => ?_)
    · have h := h.1 c2
      obtain ⟨y1, ey1⟩ : ∃ y : Int32, y = x3 + 1 := ⟨_, rfl⟩
      have h := h y1 ey1
      refine lv_iinc (v := y1) (lv' := [(3, .int y1), (0, .ref (eA E 15)), (1, .int p1), (2, .int p2), (4, .int x4)]) hx hb dX9_marks_79 hl (k := 3) rfl (by rw [ey1]; first | rfl | decide) (by decide) rfl (fun ls hl => ?_)
      refine lv_goto (tgt := 2) hx hb dX9_marks_82 (by decide) ?_
      exact h _ _ hw _ (lv_sub hl [1, 2, 3, 0] rfl)
    · have h := h.2 c2
      refine lv_iload_n hx hb dX9_marks_22 rfl (lv_at hl 2 rfl) ?_
      refine lv_iload_n hx hb dX9_marks_23 rfl (lv_at hl 3 rfl) ?_
      refine done_i hw (my_runS (As := [.int p2, .int x3]) (rest := []) C hw (mt_X9_has l C.2.2.2.2.2.2.2 hF _ _ _ h) K_m_X9_118 K_s_X9_has K_n_X9 K_c_X9_has hy_X9_has ⟨Nat.le_of_ble_eq_true rfl, Nat.le_of_ble_eq_true rfl⟩ hl.1 rfl (Nat.le_of_ble_eq_true rfl) dX9_marks_24 ⟨Nat.zero_le _, Nat.zero_le _⟩) (fun r2 w2 H locs h hw => ?_)
      refine lv_if_eq (tgt := 79) hx hb dX9_marks_27 (by decide) (fun c3 => ?_) (fun c3 => ?_)
      · have h := h.1 c3
        obtain ⟨y2, ey2⟩ : ∃ y : Int32, y = x3 + 1 := ⟨_, rfl⟩
        have h := h y2 ey2
        refine lv_iinc (v := y2) (lv' := [(3, .int y2), (0, .ref (eA E 15)), (1, .int p1), (2, .int p2), (4, .int x4)]) hx hb dX9_marks_79 hl (k := 3) rfl (by rw [ey2]; first | rfl | decide) (by decide) rfl (fun ls hl => ?_)
        refine lv_goto (tgt := 2) hx hb dX9_marks_82 (by decide) ?_
        exact h _ _ hw _ (lv_sub hl [1, 2, 3, 0] rfl)
      · have h := h.2 c3
        refine lv_aload_n hx hb dX9_marks_30 rfl (lv_at hl 0 rfl) ?_
        refine lv_iload_n hx hb dX9_marks_31 rfl (lv_at hl 1 rfl) ?_
        refine lv_iconst (v := 4) hx hb dX9_marks_32 (by decide) ?_
        refine done_i hw (my_runV (As := [.int p1, .int 4]) (rest := []) C hw 15 9 (hF 15 (by decide)) rfl rfl (mt_X9_of l C.2.2.2.2.2.2.2 hF _ _ _ h) K_m_X9_173 K_i_X9_of K_v_X9_of K_n_X9 K_c_X9_of hy_X9_of ⟨Nat.le_of_ble_eq_true rfl, Nat.le_of_ble_eq_true rfl⟩ hl.1 rfl (Nat.le_of_ble_eq_true rfl) dX9_marks_33 ⟨Nat.zero_le _, Nat.zero_le _⟩) (fun r3 w3 H locs h hw => ?_)
        refine lv_iload hx hb dX9_marks_36 (lv_at hl 4 rfl) ?_
        refine done_i hw (my_runS (As := [.int r3, .int x4]) (rest := []) C hw (mt_X9_has l C.2.2.2.2.2.2.2 hF _ _ _ h) K_m_X9_118 K_s_X9_has K_n_X9 K_c_X9_has hy_X9_has ⟨Nat.le_of_ble_eq_true rfl, Nat.le_of_ble_eq_true rfl⟩ hl.1 rfl (Nat.le_of_ble_eq_true rfl) dX9_marks_38 ⟨Nat.zero_le _, Nat.zero_le _⟩) (fun r4 w4 H locs h hw => ?_)
        refine lv_if_eq (tgt := 56) hx hb dX9_marks_41 (by decide) (fun c4 => ?_) (fun c4 => ?_)
        · have h := h.1 c4
          refine lv_iconst (v := (-1)) hx hb dX9_marks_56 (by decide) ?_
          refine lv_istore (lv' := [(5, .int ((-1))), (0, .ref (eA E 15)), (1, .int p1), (2, .int p2), (3, .int x3), (4, .int x4)]) hx hb dX9_marks_57 hl (by decide) rfl (fun ls hl => ?_)
          refine lv_iload hx hb dX9_marks_59 (lv_at hl 0 rfl) ?_
          refine lv_iconst (v := (-1)) hx hb dX9_marks_61 (by decide) ?_
          refine lv_icmp_eq (tgt := 73) hx hb dX9_marks_62 (by decide) (fun c5 => ?_) (fun c5 => ?_)
          · obtain ⟨y3, ey3⟩ : ∃ y : Int32, y = x4 + 1 := ⟨_, rfl⟩
            have h := h y3 ey3
            refine lv_iinc (v := y3) (lv' := [(4, .int y3), (5, .int ((-1))), (0, .ref (eA E 15)), (1, .int p1), (2, .int p2), (3, .int x3)]) hx hb dX9_marks_73 hl (k := 5) rfl (by rw [ey3]; first | rfl | decide) (by decide) rfl (fun ls hl => ?_)
            refine lv_goto (tgt := 15) hx hb dX9_marks_76 (by decide) ?_
            exact h _ _ hw _ (lv_sub hl [2, 3, 4, 5, 0] rfl)
          · exact absurd c5 (by decide)
        · have h := h.2 c4
          refine lv_aload_n hx hb dX9_marks_44 rfl (lv_at hl 0 rfl) ?_
          refine lv_iload_n hx hb dX9_marks_45 rfl (lv_at hl 1 rfl) ?_
          refine lv_iload_n hx hb dX9_marks_46 rfl (lv_at hl 2 rfl) ?_
          refine lv_iload_n hx hb dX9_marks_47 rfl (lv_at hl 3 rfl) ?_
          refine lv_iload hx hb dX9_marks_48 (lv_at hl 4 rfl) ?_
          refine done_i hw (my_runV (As := [.int p1, .int p2, .int x3, .int x4]) (rest := []) C hw 15 9 (hF 15 (by decide)) rfl rfl (mt_X9_behind l C.2.2.2.2.2.2.2 hF _ _ _ _ _ h) K_m_X9_180 K_i_X9_behind K_v_X9_behind K_n_X9 K_c_X9_behind hy_X9_behind ⟨Nat.le_of_ble_eq_true rfl, Nat.le_of_ble_eq_true rfl⟩ hl.1 rfl (Nat.le_of_ble_eq_true rfl) dX9_marks_50 ⟨Nat.zero_le _, Nat.zero_le _⟩) (fun r5 w5 H locs h hw => ?_)
          refine lv_goto (tgt := 57) hx hb dX9_marks_53 (by decide) ?_
          refine lv_istore (lv' := [(5, .int r5), (0, .ref (eA E 15)), (1, .int p1), (2, .int p2), (3, .int x3), (4, .int x4)]) hx hb dX9_marks_57 hl (by decide) rfl (fun ls hl => ?_)
          refine lv_iload hx hb dX9_marks_59 (lv_at hl 0 rfl) ?_
          refine lv_iconst (v := (-1)) hx hb dX9_marks_61 (by decide) ?_
          refine lv_icmp_eq (tgt := 73) hx hb dX9_marks_62 (by decide) (fun c6 => ?_) (fun c6 => ?_)
          · have h := h.1 c6
            obtain ⟨y4, ey4⟩ : ∃ y : Int32, y = x4 + 1 := ⟨_, rfl⟩
            have h := h y4 ey4
            refine lv_iinc (v := y4) (lv' := [(4, .int y4), (5, .int r5), (0, .ref (eA E 15)), (1, .int p1), (2, .int p2), (3, .int x3)]) hx hb dX9_marks_73 hl (k := 5) rfl (by rw [ey4]; first | rfl | decide) (by decide) rfl (fun ls hl => ?_)
            refine lv_goto (tgt := 15) hx hb dX9_marks_76 (by decide) ?_
            exact h _ _ hw _ (lv_sub hl [2, 3, 4, 5, 0] rfl)
          · have h := h.2 c6
            refine lv_aload_n hx hb dX9_marks_65 rfl (lv_at hl 1 rfl) ?_
            refine g9_20 C hw (hF 15 (by decide)) K_f_X9_36 dX9_marks_66 ?_
            refine lv_iload hx hb dX9_marks_69 (lv_at hl 0 rfl) ?_
            refine lv_iconst (v := 1) hx hb dX9_marks_71 (by decide) ?_
            obtain ⟨hi1, h⟩ := h
            refine r_zast C hw 24 8192 (hF 24 (by decide)) (fun _ => rfl) hi1 dX9_marks_72 (fun H locs hw => ?_)
            obtain ⟨y5, ey5⟩ : ∃ y : Int32, y = x4 + 1 := ⟨_, rfl⟩
            have h := h y5 ey5
            refine lv_iinc (v := y5) (lv' := [(4, .int y5), (5, .int r5), (0, .ref (eA E 15)), (1, .int p1), (2, .int p2), (3, .int x3)]) hx hb dX9_marks_73 hl (k := 5) rfl (by rw [ey5]; first | rfl | decide) (by decide) rfl (fun ls hl => ?_)
            refine lv_goto (tgt := 15) hx hb dX9_marks_76 (by decide) ?_
            exact h _ _ hw _ (lv_sub hl [2, 3, 4, 5, 0] rfl)
  refine lv_iconst (v := 1) hx hb dX9_marks_0 (by decide) ?_
  refine lv_istore_n (lv' := [(3, .int 1), (0, .ref (eA E 15)), (1, .int p1), (2, .int p2)]) hx hb dX9_marks_1 rfl hl (by decide) rfl (fun ls hl => ?_)
  exact h _ _ hw _ (lv_sub hl [1, 2, 3, 0] rfl)
theorem hy_X9_goesDown : yX9_goesDown.cls ≠ "java/lang/invoke/MethodHandle" ∧ yX9_goesDown.cls ≠ "java/lang/invoke/VarHandle" ∧ (parseMethodDescriptor yX9_goesDown.desc).map (fun d => d.parameters.length) = some 1 := by decide +kernel
def wp_X9_goesDown (w : Wd) (p1 : Int32) (Post : Wd → Prop) : Prop :=
  ∀ J14 : Int32 → Int32 → Wd → Prop, ∀ J53 : Int32 → Wd → Prop, (∀ (x2 : Int32) (x3 : Int32) (w : Wd), ((x2 < x3 → (J53 x2 (sL (sI w 15 21 0) 15 22 0))) ∧ (¬ x2 < x3 → ((x3 = x2 → (vp_in x3 8192 ∧ (∀ y2 : Int32, y2 = x3 + 1 → (J14 x2 y2 (sA w 24 x3.toNatClampNeg (vp_nar .boolean 1)))))) ∧ (¬ x3 = x2 → (vp_in x3 8192 ∧ (∀ y1 : Int32, y1 = x3 + 1 → (J14 x2 y1 (sA w 24 x3.toNatClampNeg (vp_nar .boolean 0))))))))) → J14 x2 x3 w) →
  (∀ (x3 : Int32) (w : Wd), ((x3 < 0 → (Post w)) ∧ (¬ x3 < 0 → (vp_in x3 8192 ∧ (((gA w 24 x3.toNatClampNeg) = 0 → (∀ y6 : Int32, y6 = x3 + (-1) → (J53 y6 w))) ∧ (¬ (gA w 24 x3.toNatClampNeg) = 0 → (∀ y3 : Int32, y3 = (gI w 15 21) + 1 → (vp_in x3 8192 ∧ (∀ y4 : Int64, y4 = (gL (sI w 15 21 y3) 15 22) + ((gA (sI w 15 21 y3) 22 x3.toNatClampNeg).toInt64) → (wp_X9_marks (sL (sI w 15 21 y3) 15 22 y4) p1 x3 (fun w3 => ∀ y5 : Int32, y5 = x3 + (-1) → (J53 y5 w3))))))))))) → J53 x3 w) →
  wp_X9_lays w p1 (fun w1 => wp_X9_of w1 p1 2 (fun r1 w2 => J14 r1 0 w2))
set_option maxHeartbeats 4000000 in
set_option maxRecDepth 100000 in
theorem mt_X9_goesDown (l : Launch) {E : En} (hI : Inj E) (hF : ∀ o, (15 ≤ o ∧ o < 25) → o ∈ eL E) (w : Wd) (p1 : Int32) {Post : Wd → Prop} (h : wp_X9_goesDown w p1 Post) : MV l E yX9_goesDown cX9_goesDown 4 none 5 118 [.ref (eA E 15), .int p1] w Post := by
  refine MG.intro hI (by decide +kernel) (Nat.le_of_ble_eq_true rfl) ?_
  intro p e s m args below meth c Q C hr hlk hQ hw ls hl
  have hx := C.1
  have hb := C.2.1
  have hl : lv_has ls 4 [(0, .ref (eA E 15)), (1, .int p1)] := hl
  unfold wp_X9_goesDown at h
  have h := h (fun x2 x3 w => Jp E p l e (Rm 5 118) s m args below meth c Q 4 14 [(0, .ref (eA E 15)), (1, .int p1), (2, .int x2), (3, .int x3)] w)
  have h := h (fun x3 w => Jp E p l e (Rm 5 118) s m args below meth c Q 4 53 [(0, .ref (eA E 15)), (1, .int p1), (3, .int x3)] w)
  have h := h ?_
  rotate_left
  · intro x2 x3 w h H locs hw ls hl
    refine lv_iload_n hx hb dX9_goesDown_14 rfl (lv_at hl 3 rfl) ?_
    refine lv_iload_n hx hb dX9_goesDown_15 rfl (lv_at hl 2 rfl) ?_
    refine lv_icmp_gt (tgt := 41) hx hb dX9_goesDown_16 (by decide) (fun c1 => ?_) (fun c1 => ?_)
    · have h := h.1 c1
      refine lv_aload_n hx hb dX9_goesDown_41 rfl (lv_at hl 0 rfl) ?_
      refine lv_iconst (v := 0) hx hb dX9_goesDown_42 (by decide) ?_
      refine p9_21 C hw (hF 15 (by decide)) K_f_X9_204 dX9_goesDown_43 (fun H locs hw => ?_)
      refine lv_aload_n hx hb dX9_goesDown_46 rfl (lv_at hl 0 rfl) ?_
      refine lv_lconst (v := 0) hx hb dX9_goesDown_47 rfl ?_
      refine p9_22 C hw (hF 15 (by decide)) K_f_X9_207 dX9_goesDown_48 (fun H locs hw => ?_)
      refine lv_iload_n hx hb dX9_goesDown_51 rfl (lv_at hl 2 rfl) ?_
      refine lv_istore_n (lv' := [(3, .int x2), (0, .ref (eA E 15)), (1, .int p1), (2, .int x2)]) hx hb dX9_goesDown_52 rfl hl (by decide) rfl (fun ls hl => ?_)
      exact h _ _ hw _ (lv_sub hl [1, 2, 0] rfl)
    · have h := h.2 c1
      refine lv_aload_n hx hb dX9_goesDown_19 rfl (lv_at hl 0 rfl) ?_
      refine g9_20 C hw (hF 15 (by decide)) K_f_X9_36 dX9_goesDown_20 ?_
      refine lv_iload_n hx hb dX9_goesDown_23 rfl (lv_at hl 3 rfl) ?_
      refine lv_iload_n hx hb dX9_goesDown_24 rfl (lv_at hl 3 rfl) ?_
      refine lv_iload_n hx hb dX9_goesDown_25 rfl (lv_at hl 2 rfl) ?_
      refine lv_icmp_ne (tgt := 33) hx hb dX9_goesDown_26 (by decide) (fun c2 => ?_) (fun c2 => ?_)
      · have h := h.2 c2
        refine lv_iconst (v := 0) hx hb dX9_goesDown_33 (by decide) ?_
        obtain ⟨hi1, h⟩ := h
        refine r_zast C hw 24 8192 (hF 24 (by decide)) (fun _ => rfl) hi1 dX9_goesDown_34 (fun H locs hw => ?_)
        obtain ⟨y1, ey1⟩ : ∃ y : Int32, y = x3 + 1 := ⟨_, rfl⟩
        have h := h y1 ey1
        refine lv_iinc (v := y1) (lv' := [(3, .int y1), (0, .ref (eA E 15)), (1, .int p1), (2, .int x2)]) hx hb dX9_goesDown_35 hl (k := 3) rfl (by rw [ey1]; first | rfl | decide) (by decide) rfl (fun ls hl => ?_)
        refine lv_goto (tgt := 14) hx hb dX9_goesDown_38 (by decide) ?_
        exact h _ _ hw _ (lv_sub hl [1, 2, 3, 0] rfl)
      · have h := h.1 c2
        refine lv_iconst (v := 1) hx hb dX9_goesDown_29 (by decide) ?_
        refine lv_goto (tgt := 34) hx hb dX9_goesDown_30 (by decide) ?_
        obtain ⟨hi2, h⟩ := h
        refine r_zast C hw 24 8192 (hF 24 (by decide)) (fun _ => rfl) hi2 dX9_goesDown_34 (fun H locs hw => ?_)
        obtain ⟨y2, ey2⟩ : ∃ y : Int32, y = x3 + 1 := ⟨_, rfl⟩
        have h := h y2 ey2
        refine lv_iinc (v := y2) (lv' := [(3, .int y2), (0, .ref (eA E 15)), (1, .int p1), (2, .int x2)]) hx hb dX9_goesDown_35 hl (k := 3) rfl (by rw [ey2]; first | rfl | decide) (by decide) rfl (fun ls hl => ?_)
        refine lv_goto (tgt := 14) hx hb dX9_goesDown_38 (by decide) ?_
        exact h _ _ hw _ (lv_sub hl [1, 2, 3, 0] rfl)
  have h := h ?_
  rotate_left
  · intro x3 w h H locs hw ls hl
    refine lv_iload_n hx hb dX9_goesDown_53 rfl (lv_at hl 2 rfl) ?_
    refine lv_if_lt (tgt := 107) hx hb dX9_goesDown_54 (by decide) (fun c3 => ?_) (fun c3 => ?_)
    · have h := h.1 c3
      rw [hQ]
      exact ret_v C hr hlk hw h dX9_goesDown_107
    · have h := h.2 c3
      refine lv_aload_n hx hb dX9_goesDown_57 rfl (lv_at hl 0 rfl) ?_
      refine g9_20 C hw (hF 15 (by decide)) K_f_X9_36 dX9_goesDown_58 ?_
      refine lv_iload_n hx hb dX9_goesDown_61 rfl (lv_at hl 2 rfl) ?_
      obtain ⟨hi3, h⟩ := h
      refine r_zald C hw 24 8192 (hF 24 (by decide)) rfl hi3 dX9_goesDown_62 ?_
      refine lv_if_ne (tgt := 69) hx hb dX9_goesDown_63 (by decide) (fun c4 => ?_) (fun c4 => ?_)
      · have h := h.2 c4
        refine lv_aload_n hx hb dX9_goesDown_69 rfl (lv_at hl 0 rfl) ?_
        refine lv_dup hx hb dX9_goesDown_70 rfl ?_
        refine g9_21 C hw (hF 15 (by decide)) K_f_X9_204 dX9_goesDown_71 ?_
        refine lv_iconst (v := 1) hx hb dX9_goesDown_74 (by decide) ?_
        refine lv_iadd hx hb dX9_goesDown_75 ?_
        refine lv_topi (fun y3 ey3 => ?_)
        have h := h y3 ey3
        refine p9_21 C hw (hF 15 (by decide)) K_f_X9_204 dX9_goesDown_76 (fun H locs hw => ?_)
        refine lv_aload_n hx hb dX9_goesDown_79 rfl (lv_at hl 0 rfl) ?_
        refine lv_dup hx hb dX9_goesDown_80 rfl ?_
        refine g9_22 C hw (hF 15 (by decide)) K_f_X9_207 dX9_goesDown_81 ?_
        refine lv_aload_n hx hb dX9_goesDown_84 rfl (lv_at hl 0 rfl) ?_
        refine g9_18 C hw (hF 15 (by decide)) K_f_X9_30 dX9_goesDown_85 ?_
        refine lv_iload_n hx hb dX9_goesDown_88 rfl (lv_at hl 2 rfl) ?_
        obtain ⟨hi4, h⟩ := h
        refine r_iald C hw 22 8192 (hF 22 (by decide)) rfl hi4 dX9_goesDown_89 ?_
        refine lv_i2l hx hb dX9_goesDown_90 rfl ?_
        refine lv_ladd hx hb dX9_goesDown_91 ?_
        refine lv_topl (fun y4 ey4 => ?_)
        have h := h y4 ey4
        refine p9_22 C hw (hF 15 (by decide)) K_f_X9_207 dX9_goesDown_92 (fun H locs hw => ?_)
        refine lv_aload_n hx hb dX9_goesDown_95 rfl (lv_at hl 0 rfl) ?_
        refine lv_iload_n hx hb dX9_goesDown_96 rfl (lv_at hl 1 rfl) ?_
        refine lv_iload_n hx hb dX9_goesDown_97 rfl (lv_at hl 2 rfl) ?_
        refine done_v hw (my_runV (As := [.int p1, .int x3]) (rest := []) C hw 15 9 (hF 15 (by decide)) rfl rfl (mt_X9_marks l C.2.2.2.2.2.2.2 hF _ _ _ h) K_m_X9_211 K_i_X9_marks K_v_X9_marks K_n_X9 K_c_X9_marks hy_X9_marks ⟨Nat.le_of_ble_eq_true rfl, Nat.le_of_ble_eq_true rfl⟩ hl.1 rfl (Nat.le_of_ble_eq_true rfl) dX9_goesDown_98 ⟨Nat.zero_le _, Nat.zero_le _⟩) (fun w3 H locs h hw => ?_)
        obtain ⟨y5, ey5⟩ : ∃ y : Int32, y = x3 + (-1) := ⟨_, rfl⟩
        have h := h y5 ey5
        refine lv_iinc (v := y5) (lv' := [(3, .int y5), (0, .ref (eA E 15)), (1, .int p1)]) hx hb dX9_goesDown_101 hl (k := 2) rfl (by rw [ey5]; first | rfl | decide) (by decide) rfl (fun ls hl => ?_)
        refine lv_goto (tgt := 53) hx hb dX9_goesDown_104 (by decide) ?_
        exact h _ _ hw _ (lv_sub hl [1, 2, 0] rfl)
      · have h := h.1 c4
        refine lv_goto (tgt := 101) hx hb dX9_goesDown_66 (by decide) ?_
        obtain ⟨y6, ey6⟩ : ∃ y : Int32, y = x3 + (-1) := ⟨_, rfl⟩
        have h := h y6 ey6
        refine lv_iinc (v := y6) (lv' := [(3, .int y6), (0, .ref (eA E 15)), (1, .int p1)]) hx hb dX9_goesDown_101 hl (k := 2) rfl (by rw [ey6]; first | rfl | decide) (by decide) rfl (fun ls hl => ?_)
        refine lv_goto (tgt := 53) hx hb dX9_goesDown_104 (by decide) ?_
        exact h _ _ hw _ (lv_sub hl [1, 2, 0] rfl)
  refine lv_aload_n hx hb dX9_goesDown_0 rfl (lv_at hl 0 rfl) ?_
  refine lv_iload_n hx hb dX9_goesDown_1 rfl (lv_at hl 1 rfl) ?_
  refine done_v hw (my_runV (As := [.int p1]) (rest := []) C hw 15 9 (hF 15 (by decide)) rfl rfl (mt_X9_lays l C.2.2.2.2.2.2.2 hF _ _ h) K_m_X9_184 K_i_X9_lays K_v_X9_lays K_n_X9 K_c_X9_lays hy_X9_lays ⟨Nat.le_of_ble_eq_true rfl, Nat.le_of_ble_eq_true rfl⟩ hl.1 rfl (Nat.le_of_ble_eq_true rfl) dX9_goesDown_2 ⟨Nat.zero_le _, Nat.zero_le _⟩) (fun w1 H locs h hw => ?_)
  refine lv_aload_n hx hb dX9_goesDown_5 rfl (lv_at hl 0 rfl) ?_
  refine lv_iload_n hx hb dX9_goesDown_6 rfl (lv_at hl 1 rfl) ?_
  refine lv_iconst (v := 2) hx hb dX9_goesDown_7 (by decide) ?_
  refine done_i hw (my_runV (As := [.int p1, .int 2]) (rest := []) C hw 15 9 (hF 15 (by decide)) rfl rfl (mt_X9_of l C.2.2.2.2.2.2.2 hF _ _ _ h) K_m_X9_173 K_i_X9_of K_v_X9_of K_n_X9 K_c_X9_of hy_X9_of ⟨Nat.le_of_ble_eq_true rfl, Nat.le_of_ble_eq_true rfl⟩ hl.1 rfl (Nat.le_of_ble_eq_true rfl) dX9_goesDown_8 ⟨Nat.zero_le _, Nat.zero_le _⟩) (fun r1 w2 H locs h hw => ?_)
  refine lv_istore_n (lv' := [(2, .int r1), (0, .ref (eA E 15)), (1, .int p1)]) hx hb dX9_goesDown_11 rfl hl (by decide) rfl (fun ls hl => ?_)
  refine lv_iconst (v := 0) hx hb dX9_goesDown_12 (by decide) ?_
  refine lv_istore_n (lv' := [(3, .int 0), (2, .int r1), (0, .ref (eA E 15)), (1, .int p1)]) hx hb dX9_goesDown_13 rfl hl (by decide) rfl (fun ls hl => ?_)
  exact h _ _ hw _ (lv_sub hl [2, 3, 1, 0] rfl)
theorem hy_X9_positions : yX9_positions.cls ≠ "java/lang/invoke/MethodHandle" ∧ yX9_positions.cls ≠ "java/lang/invoke/VarHandle" ∧ (parseMethodDescriptor yX9_positions.desc).map (fun d => d.parameters.length) = some 1 := by decide +kernel
def wp_X9_positions (w : Wd) (p1 : Int32) (Post : Int32 → Wd → Prop) : Prop :=
  wp_X9_isLadder w p1 (fun r1 w1 => (r1 = 0 → (((gI (sI w1 15 0 1) 15 0) ≤ 0 → (wp_X9_goesDown (sI w1 15 0 1) p1 (fun w2 => Post (gI w2 15 21) w2))) ∧ (¬ (gI (sI w1 15 0 1) 15 0) ≤ 0 → (Post 0 (sI w1 15 0 1))))) ∧ (¬ r1 = 0 → (((gI (sI w1 15 0 0) 15 0) ≤ 0 → (wp_X9_goesDown (sI w1 15 0 0) p1 (fun w3 => Post (gI w3 15 21) w3))) ∧ (¬ (gI (sI w1 15 0 0) 15 0) ≤ 0 → (Post 0 (sI w1 15 0 0))))))
set_option maxHeartbeats 4000000 in
set_option maxRecDepth 100000 in
theorem mt_X9_positions (l : Launch) {E : En} (hI : Inj E) (hF : ∀ o, (15 ≤ o ∧ o < 25) → o ∈ eL E) (w : Wd) (p1 : Int32) {Post : Int32 → Wd → Prop} (h : wp_X9_positions w p1 Post) : MI l E yX9_positions cX9_positions 2 (some .int) 6 141 [.ref (eA E 15), .int p1] w Post := by
  refine MG.intro hI (by decide +kernel) (Nat.le_of_ble_eq_true rfl) ?_
  intro p e s m args below meth c Q C hr hlk hQ hw ls hl
  have hx := C.1
  have hb := C.2.1
  have hl : lv_has ls 2 [(0, .ref (eA E 15)), (1, .int p1)] := hl
  unfold wp_X9_positions at h
  refine lv_aload_n hx hb dX9_positions_0 rfl (lv_at hl 0 rfl) ?_
  refine lv_aload_n hx hb dX9_positions_1 rfl (lv_at hl 0 rfl) ?_
  refine lv_iload_n hx hb dX9_positions_2 rfl (lv_at hl 1 rfl) ?_
  refine done_i hw (my_runV (As := [.int p1]) (rest := [.ref (eA E 15)]) C hw 15 9 (hF 15 (by decide)) rfl rfl (mt_X9_isLadder l C.2.2.2.2.2.2.2 hF _ _ h) K_m_X9_197 K_i_X9_isLadder K_v_X9_isLadder K_n_X9 K_c_X9_isLadder hy_X9_isLadder ⟨Nat.le_of_ble_eq_true rfl, Nat.le_of_ble_eq_true rfl⟩ hl.1 rfl (Nat.le_of_ble_eq_true rfl) dX9_positions_3 ⟨Nat.zero_le _, Nat.zero_le _⟩) (fun r1 w1 H locs h hw => ?_)
  refine lv_if_eq (tgt := 13) hx hb dX9_positions_6 (by decide) (fun c1 => ?_) (fun c1 => ?_)
  · have h := h.1 c1
    refine lv_iconst (v := 1) hx hb dX9_positions_13 (by decide) ?_
    refine p9_0 C hw (hF 15 (by decide)) K_f_X9_45 dX9_positions_14 (fun H locs hw => ?_)
    refine lv_aload_n hx hb dX9_positions_17 rfl (lv_at hl 0 rfl) ?_
    refine g9_0 C hw (hF 15 (by decide)) K_f_X9_45 dX9_positions_18 ?_
    refine lv_if_le (tgt := 26) hx hb dX9_positions_21 (by decide) (fun c2 => ?_) (fun c2 => ?_)
    · have h := h.1 c2
      refine lv_aload_n hx hb dX9_positions_26 rfl (lv_at hl 0 rfl) ?_
      refine lv_iload_n hx hb dX9_positions_27 rfl (lv_at hl 1 rfl) ?_
      refine done_v hw (my_runV (As := [.int p1]) (rest := []) C hw 15 9 (hF 15 (by decide)) rfl rfl (mt_X9_goesDown l C.2.2.2.2.2.2.2 hF _ _ h) K_m_X9_214 K_i_X9_goesDown K_v_X9_goesDown K_n_X9 K_c_X9_goesDown hy_X9_goesDown ⟨Nat.le_of_ble_eq_true rfl, Nat.le_of_ble_eq_true rfl⟩ hl.1 rfl (Nat.le_of_ble_eq_true rfl) dX9_positions_28 ⟨Nat.zero_le _, Nat.zero_le _⟩) (fun w2 H locs h hw => ?_)
      refine lv_aload_n hx hb dX9_positions_31 rfl (lv_at hl 0 rfl) ?_
      refine g9_21 C hw (hF 15 (by decide)) K_f_X9_204 dX9_positions_32 ?_
      rw [hQ]
      exact ret_i C hr hlk hw h dX9_positions_35
    · have h := h.2 c2
      refine lv_iconst (v := 0) hx hb dX9_positions_24 (by decide) ?_
      rw [hQ]
      exact ret_i C hr hlk hw h dX9_positions_25
  · have h := h.2 c1
    refine lv_iconst (v := 0) hx hb dX9_positions_9 (by decide) ?_
    refine lv_goto (tgt := 14) hx hb dX9_positions_10 (by decide) ?_
    refine p9_0 C hw (hF 15 (by decide)) K_f_X9_45 dX9_positions_14 (fun H locs hw => ?_)
    refine lv_aload_n hx hb dX9_positions_17 rfl (lv_at hl 0 rfl) ?_
    refine g9_0 C hw (hF 15 (by decide)) K_f_X9_45 dX9_positions_18 ?_
    refine lv_if_le (tgt := 26) hx hb dX9_positions_21 (by decide) (fun c3 => ?_) (fun c3 => ?_)
    · have h := h.1 c3
      refine lv_aload_n hx hb dX9_positions_26 rfl (lv_at hl 0 rfl) ?_
      refine lv_iload_n hx hb dX9_positions_27 rfl (lv_at hl 1 rfl) ?_
      refine done_v hw (my_runV (As := [.int p1]) (rest := []) C hw 15 9 (hF 15 (by decide)) rfl rfl (mt_X9_goesDown l C.2.2.2.2.2.2.2 hF _ _ h) K_m_X9_214 K_i_X9_goesDown K_v_X9_goesDown K_n_X9 K_c_X9_goesDown hy_X9_goesDown ⟨Nat.le_of_ble_eq_true rfl, Nat.le_of_ble_eq_true rfl⟩ hl.1 rfl (Nat.le_of_ble_eq_true rfl) dX9_positions_28 ⟨Nat.zero_le _, Nat.zero_le _⟩) (fun w3 H locs h hw => ?_)
      refine lv_aload_n hx hb dX9_positions_31 rfl (lv_at hl 0 rfl) ?_
      refine g9_21 C hw (hF 15 (by decide)) K_f_X9_204 dX9_positions_32 ?_
      rw [hQ]
      exact ret_i C hr hlk hw h dX9_positions_35
    · have h := h.2 c3
      refine lv_iconst (v := 0) hx hb dX9_positions_24 (by decide) ?_
      rw [hQ]
      exact ret_i C hr hlk hw h dX9_positions_25
theorem hy_X9_meanValue : yX9_meanValue.cls ≠ "java/lang/invoke/MethodHandle" ∧ yX9_meanValue.cls ≠ "java/lang/invoke/VarHandle" ∧ (parseMethodDescriptor yX9_meanValue.desc).map (fun d => d.parameters.length) = some 1 := by decide +kernel
def wp_X9_meanValue (w : Wd) (p1 : Int32) (Post : UInt64 → Wd → Prop) : Prop :=
  wp_X9_isLadder w p1 (fun r1 w1 => (r1 = 0 → (((gI (sI w1 15 0 1) 15 0) ≤ 0 → (wp_X9_goesDown (sI w1 15 0 1) p1 (fun w2 => vf_n64 (FP.ddiv (FP.l2d (gL w2 15 22)) (FP.i2d (gI w2 15 21))) ∧ (Post (FP.ddiv (FP.l2d (gL w2 15 22)) (FP.i2d (gI w2 15 21))) w2)))) ∧ (¬ (gI (sI w1 15 0 1) 15 0) ≤ 0 → (Post FP.dconst0 (sI w1 15 0 1))))) ∧ (¬ r1 = 0 → (((gI (sI w1 15 0 0) 15 0) ≤ 0 → (wp_X9_goesDown (sI w1 15 0 0) p1 (fun w3 => vf_n64 (FP.ddiv (FP.l2d (gL w3 15 22)) (FP.i2d (gI w3 15 21))) ∧ (Post (FP.ddiv (FP.l2d (gL w3 15 22)) (FP.i2d (gI w3 15 21))) w3)))) ∧ (¬ (gI (sI w1 15 0 0) 15 0) ≤ 0 → (Post FP.dconst0 (sI w1 15 0 0))))))
set_option maxHeartbeats 4000000 in
set_option maxRecDepth 100000 in
theorem mt_X9_meanValue (l : Launch) {E : En} (hI : Inj E) (hF : ∀ o, (15 ≤ o ∧ o < 25) → o ∈ eL E) (w : Wd) (p1 : Int32) {Post : UInt64 → Wd → Prop} (h : wp_X9_meanValue w p1 Post) : MD l E yX9_meanValue cX9_meanValue 2 (some .double) 6 141 [.ref (eA E 15), .int p1] w Post := by
  refine MG.intro hI (by decide +kernel) (Nat.le_of_ble_eq_true rfl) ?_
  intro p e s m args below meth c Q C hr hlk hQ hw ls hl
  have hx := C.1
  have hb := C.2.1
  have hl : lv_has ls 2 [(0, .ref (eA E 15)), (1, .int p1)] := hl
  unfold wp_X9_meanValue at h
  refine lv_aload_n hx hb dX9_meanValue_0 rfl (lv_at hl 0 rfl) ?_
  refine lv_aload_n hx hb dX9_meanValue_1 rfl (lv_at hl 0 rfl) ?_
  refine lv_iload_n hx hb dX9_meanValue_2 rfl (lv_at hl 1 rfl) ?_
  refine done_i hw (my_runV (As := [.int p1]) (rest := [.ref (eA E 15)]) C hw 15 9 (hF 15 (by decide)) rfl rfl (mt_X9_isLadder l C.2.2.2.2.2.2.2 hF _ _ h) K_m_X9_197 K_i_X9_isLadder K_v_X9_isLadder K_n_X9 K_c_X9_isLadder hy_X9_isLadder ⟨Nat.le_of_ble_eq_true rfl, Nat.le_of_ble_eq_true rfl⟩ hl.1 rfl (Nat.le_of_ble_eq_true rfl) dX9_meanValue_3 ⟨Nat.zero_le _, Nat.zero_le _⟩) (fun r1 w1 H locs h hw => ?_)
  refine lv_if_eq (tgt := 13) hx hb dX9_meanValue_6 (by decide) (fun c1 => ?_) (fun c1 => ?_)
  · have h := h.1 c1
    refine lv_iconst (v := 1) hx hb dX9_meanValue_13 (by decide) ?_
    refine p9_0 C hw (hF 15 (by decide)) K_f_X9_45 dX9_meanValue_14 (fun H locs hw => ?_)
    refine lv_aload_n hx hb dX9_meanValue_17 rfl (lv_at hl 0 rfl) ?_
    refine g9_0 C hw (hF 15 (by decide)) K_f_X9_45 dX9_meanValue_18 ?_
    refine lv_if_le (tgt := 26) hx hb dX9_meanValue_21 (by decide) (fun c2 => ?_) (fun c2 => ?_)
    · have h := h.1 c2
      refine lv_aload_n hx hb dX9_meanValue_26 rfl (lv_at hl 0 rfl) ?_
      refine lv_iload_n hx hb dX9_meanValue_27 rfl (lv_at hl 1 rfl) ?_
      refine done_v hw (my_runV (As := [.int p1]) (rest := []) C hw 15 9 (hF 15 (by decide)) rfl rfl (mt_X9_goesDown l C.2.2.2.2.2.2.2 hF _ _ h) K_m_X9_214 K_i_X9_goesDown K_v_X9_goesDown K_n_X9 K_c_X9_goesDown hy_X9_goesDown ⟨Nat.le_of_ble_eq_true rfl, Nat.le_of_ble_eq_true rfl⟩ hl.1 rfl (Nat.le_of_ble_eq_true rfl) dX9_meanValue_28 ⟨Nat.zero_le _, Nat.zero_le _⟩) (fun w2 H locs h hw => ?_)
      refine lv_aload_n hx hb dX9_meanValue_31 rfl (lv_at hl 0 rfl) ?_
      refine g9_22 C hw (hF 15 (by decide)) K_f_X9_207 dX9_meanValue_32 ?_
      refine lv_l2d hx hb dX9_meanValue_35 ?_
      refine lv_aload_n hx hb dX9_meanValue_36 rfl (lv_at hl 0 rfl) ?_
      refine g9_21 C hw (hF 15 (by decide)) K_f_X9_204 dX9_meanValue_37 ?_
      refine lv_i2d hx hb dX9_meanValue_40 ?_
      obtain ⟨hn1, h⟩ := h
      refine lv_ddiv hx hb dX9_meanValue_41 hn1 ?_
      rw [hQ]
      exact ret_d C hr hlk hw h dX9_meanValue_42
    · have h := h.2 c2
      refine lv_dconst0 hx hb dX9_meanValue_24 ?_
      rw [hQ]
      exact ret_d C hr hlk hw h dX9_meanValue_25
  · have h := h.2 c1
    refine lv_iconst (v := 0) hx hb dX9_meanValue_9 (by decide) ?_
    refine lv_goto (tgt := 14) hx hb dX9_meanValue_10 (by decide) ?_
    refine p9_0 C hw (hF 15 (by decide)) K_f_X9_45 dX9_meanValue_14 (fun H locs hw => ?_)
    refine lv_aload_n hx hb dX9_meanValue_17 rfl (lv_at hl 0 rfl) ?_
    refine g9_0 C hw (hF 15 (by decide)) K_f_X9_45 dX9_meanValue_18 ?_
    refine lv_if_le (tgt := 26) hx hb dX9_meanValue_21 (by decide) (fun c3 => ?_) (fun c3 => ?_)
    · have h := h.1 c3
      refine lv_aload_n hx hb dX9_meanValue_26 rfl (lv_at hl 0 rfl) ?_
      refine lv_iload_n hx hb dX9_meanValue_27 rfl (lv_at hl 1 rfl) ?_
      refine done_v hw (my_runV (As := [.int p1]) (rest := []) C hw 15 9 (hF 15 (by decide)) rfl rfl (mt_X9_goesDown l C.2.2.2.2.2.2.2 hF _ _ h) K_m_X9_214 K_i_X9_goesDown K_v_X9_goesDown K_n_X9 K_c_X9_goesDown hy_X9_goesDown ⟨Nat.le_of_ble_eq_true rfl, Nat.le_of_ble_eq_true rfl⟩ hl.1 rfl (Nat.le_of_ble_eq_true rfl) dX9_meanValue_28 ⟨Nat.zero_le _, Nat.zero_le _⟩) (fun w3 H locs h hw => ?_)
      refine lv_aload_n hx hb dX9_meanValue_31 rfl (lv_at hl 0 rfl) ?_
      refine g9_22 C hw (hF 15 (by decide)) K_f_X9_207 dX9_meanValue_32 ?_
      refine lv_l2d hx hb dX9_meanValue_35 ?_
      refine lv_aload_n hx hb dX9_meanValue_36 rfl (lv_at hl 0 rfl) ?_
      refine g9_21 C hw (hF 15 (by decide)) K_f_X9_204 dX9_meanValue_37 ?_
      refine lv_i2d hx hb dX9_meanValue_40 ?_
      obtain ⟨hn2, h⟩ := h
      refine lv_ddiv hx hb dX9_meanValue_41 hn2 ?_
      rw [hQ]
      exact ret_d C hr hlk hw h dX9_meanValue_42
    · have h := h.2 c3
      refine lv_dconst0 hx hb dX9_meanValue_24 ?_
      rw [hQ]
      exact ret_d C hr hlk hw h dX9_meanValue_25
theorem hy_X9_isMex : yX9_isMex.cls ≠ "java/lang/invoke/MethodHandle" ∧ yX9_isMex.cls ≠ "java/lang/invoke/VarHandle" ∧ (parseMethodDescriptor yX9_isMex.desc).map (fun d => d.parameters.length) = some 1 := by decide +kernel
def wp_X9_isMex (w : Wd) (p1 : Int32) (Post : Int32 → Wd → Prop) : Prop :=
  ∀ J17 : Int32 → Int32 → Int32 → Wd → Prop, ∀ J31 : Int32 → Int32 → Int32 → Int32 → Wd → Prop, (∀ (x2 : Int32) (x3 : Int32) (x4 : Int32) (w : Wd), (wp_X9_of w p1 0 (fun r2 w3 => (r2 < x4 → (vp_in x2 8192 ∧ (∀ y1 : Int32, y1 = ((1 : Int32) <<< ((gA w3 22 x2.toNatClampNeg) &&& 31)) - 1 → (vp_in x2 8192 ∧ (wp_X9_has w3 x3 (gA w3 22 x2.toNatClampNeg) (fun r3 w4 => (r3 = 0 → (((x3 &&& y1) = y1 → (Post 1 w4)) ∧ (¬ (x3 &&& y1) = y1 → (Post 0 w4)))) ∧ (¬ r3 = 0 → (Post 0 w4)))))))) ∧ (¬ r2 < x4 → (J31 x2 x3 x4 1 w3)))) → J17 x2 x3 x4 w) →
  (∀ (x2 : Int32) (x3 : Int32) (x4 : Int32) (x5 : Int32) (w : Wd), ((12 < x5 → (∀ y2 : Int32, y2 = x4 + 1 → (J17 x2 x3 y2 w))) ∧ (¬ 12 < x5 → (wp_X9_has w x2 x4 (fun r4 w5 => (r4 = 0 → (∀ y3 : Int32, y3 = x4 + 1 → (J17 x2 x3 y3 w5))) ∧ (¬ r4 = 0 → (wp_X9_of w5 p1 4 (fun r5 w6 => wp_X9_has w6 r5 x5 (fun r6 w7 => (r6 = 0 → (∀ y4 : Int32, y4 = x5 + 1 → (J31 x2 x3 x4 y4 w7))) ∧ (¬ r6 = 0 → (wp_X9_behind w7 p1 x2 x4 x5 (fun r7 w8 => (r7 = ((-1)) → (∀ y5 : Int32, y5 = x5 + 1 → (J31 x2 x3 x4 y5 w8))) ∧ (¬ r7 = ((-1)) → (vp_in r7 8192 ∧ (∀ y6 : Int32, y6 = x3 ||| ((1 : Int32) <<< ((gA w8 22 r7.toNatClampNeg) &&& 31)) → (∀ y7 : Int32, y7 = x5 + 1 → (J31 x2 y6 x4 y7 w8)))))))))))))))) → J31 x2 x3 x4 x5 w) →
  wp_X9_lays w p1 (fun w1 => wp_X9_of w1 p1 2 (fun r1 w2 => J17 r1 0 1 w2))
set_option maxHeartbeats 4000000 in
set_option maxRecDepth 100000 in
theorem mt_X9_isMex (l : Launch) {E : En} (hI : Inj E) (hF : ∀ o, (15 ≤ o ∧ o < 25) → o ∈ eL E) (w : Wd) (p1 : Int32) {Post : Int32 → Wd → Prop} (h : wp_X9_isMex w p1 Post) : MI l E yX9_isMex cX9_isMex 7 (some .boolean) 5 118 [.ref (eA E 15), .int p1] w Post := by
  refine MG.intro hI (by decide +kernel) (Nat.le_of_ble_eq_true rfl) ?_
  intro p e s m args below meth c Q C hr hlk hQ hw ls hl
  have hx := C.1
  have hb := C.2.1
  have hl : lv_has ls 7 [(0, .ref (eA E 15)), (1, .int p1)] := hl
  unfold wp_X9_isMex at h
  have h := h (fun x2 x3 x4 w => Jp E p l e (Rm 5 118) s m args below meth c Q 7 17 [(0, .ref (eA E 15)), (1, .int p1), (2, .int x2), (3, .int x3), (4, .int x4)] w)
  have h := h (fun x2 x3 x4 x5 w => Jp E p l e (Rm 5 118) s m args below meth c Q 7 31 [(0, .ref (eA E 15)), (1, .int p1), (2, .int x2), (3, .int x3), (4, .int x4), (5, .int x5)] w)
  have h := h ?_
  rotate_left
  · intro x2 x3 x4 w h H locs hw ls hl
    refine lv_iload hx hb dX9_isMex_17 (lv_at hl 4 rfl) ?_
    refine lv_aload_n hx hb dX9_isMex_19 rfl (lv_at hl 0 rfl) ?_
    refine lv_iload_n hx hb dX9_isMex_20 rfl (lv_at hl 1 rfl) ?_
    refine lv_iconst (v := 0) hx hb dX9_isMex_21 (by decide) ?_
    refine done_i hw (my_runV (As := [.int p1, .int 0]) (rest := [.int x4]) C hw 15 9 (hF 15 (by decide)) rfl rfl (mt_X9_of l C.2.2.2.2.2.2.2 hF _ _ _ h) K_m_X9_173 K_i_X9_of K_v_X9_of K_n_X9 K_c_X9_of hy_X9_of ⟨Nat.le_of_ble_eq_true rfl, Nat.le_of_ble_eq_true rfl⟩ hl.1 rfl (Nat.le_of_ble_eq_true rfl) dX9_isMex_22 ⟨Nat.zero_le _, Nat.zero_le _⟩) (fun r2 w3 H locs h hw => ?_)
    refine lv_icmp_gt (tgt := 107) hx hb dX9_isMex_25 (by decide) (fun c1 => ?_) (fun c1 => ?_)
    · have h := h.1 c1
      refine lv_iconst (v := 1) hx hb dX9_isMex_107 (by decide) ?_
      refine lv_aload_n hx hb dX9_isMex_108 rfl (lv_at hl 0 rfl) ?_
      refine g9_18 C hw (hF 15 (by decide)) K_f_X9_30 dX9_isMex_109 ?_
      refine lv_iload_n hx hb dX9_isMex_112 rfl (lv_at hl 2 rfl) ?_
      obtain ⟨hi1, h⟩ := h
      refine r_iald C hw 22 8192 (hF 22 (by decide)) rfl hi1 dX9_isMex_113 ?_
      refine lv_ishl hx hb dX9_isMex_114 ?_
      refine lv_iconst (v := 1) hx hb dX9_isMex_115 (by decide) ?_
      refine lv_isub hx hb dX9_isMex_116 ?_
      refine lv_topi (fun y1 ey1 => ?_)
      have h := h y1 ey1
      refine lv_istore (lv' := [(4, .int y1), (0, .ref (eA E 15)), (1, .int p1), (2, .int x2), (3, .int x3)]) hx hb dX9_isMex_117 hl (by decide) rfl (fun ls hl => ?_)
      refine lv_iload_n hx hb dX9_isMex_119 rfl (lv_at hl 4 rfl) ?_
      refine lv_aload_n hx hb dX9_isMex_120 rfl (lv_at hl 1 rfl) ?_
      refine g9_18 C hw (hF 15 (by decide)) K_f_X9_30 dX9_isMex_121 ?_
      refine lv_iload_n hx hb dX9_isMex_124 rfl (lv_at hl 3 rfl) ?_
      obtain ⟨hi2, h⟩ := h
      refine r_iald C hw 22 8192 (hF 22 (by decide)) rfl hi2 dX9_isMex_125 ?_
      refine done_i hw (my_runS (As := [.int x3, .int (gA w3 22 x2.toNatClampNeg)]) (rest := []) C hw (mt_X9_has l C.2.2.2.2.2.2.2 hF _ _ _ h) K_m_X9_118 K_s_X9_has K_n_X9 K_c_X9_has hy_X9_has ⟨Nat.le_of_ble_eq_true rfl, Nat.le_of_ble_eq_true rfl⟩ hl.1 rfl (Nat.le_of_ble_eq_true rfl) dX9_isMex_126 ⟨Nat.zero_le _, Nat.zero_le _⟩) (fun r3 w4 H locs h hw => ?_)
      refine lv_if_ne (tgt := 145) hx hb dX9_isMex_129 (by decide) (fun c2 => ?_) (fun c2 => ?_)
      · have h := h.2 c2
        refine lv_iconst (v := 0) hx hb dX9_isMex_145 (by decide) ?_
        rw [hQ]
        exact ret_z C hr hlk hw h (by decide) dX9_isMex_146
      · have h := h.1 c2
        refine lv_iload_n hx hb dX9_isMex_132 rfl (lv_at hl 4 rfl) ?_
        refine lv_iload hx hb dX9_isMex_133 (lv_at hl 0 rfl) ?_
        refine lv_iand hx hb dX9_isMex_135 ?_
        refine lv_iload hx hb dX9_isMex_136 (lv_at hl 0 rfl) ?_
        refine lv_icmp_ne (tgt := 145) hx hb dX9_isMex_138 (by decide) (fun c3 => ?_) (fun c3 => ?_)
        · have h := h.2 c3
          refine lv_iconst (v := 0) hx hb dX9_isMex_145 (by decide) ?_
          rw [hQ]
          exact ret_z C hr hlk hw h (by decide) dX9_isMex_146
        · have h := h.1 c3
          refine lv_iconst (v := 1) hx hb dX9_isMex_141 (by decide) ?_
          refine lv_goto (tgt := 146) hx hb dX9_isMex_142 (by decide) ?_
          rw [hQ]
          exact ret_z C hr hlk hw h (by decide) dX9_isMex_146
    · have h := h.2 c1
      refine lv_iconst (v := 1) hx hb dX9_isMex_28 (by decide) ?_
      refine lv_istore (lv' := [(5, .int 1), (0, .ref (eA E 15)), (1, .int p1), (2, .int x2), (3, .int x3), (4, .int x4)]) hx hb dX9_isMex_29 hl (by decide) rfl (fun ls hl => ?_)
      exact h _ _ hw _ (lv_sub hl [1, 2, 3, 4, 5, 0] rfl)
  have h := h ?_
  rotate_left
  · intro x2 x3 x4 x5 w h H locs hw ls hl
    refine lv_iload hx hb dX9_isMex_31 (lv_at hl 5 rfl) ?_
    refine lv_bipush (v := 12) hx hb dX9_isMex_33 (by decide) ?_
    refine lv_icmp_gt (tgt := 101) hx hb dX9_isMex_35 (by decide) (fun c4 => ?_) (fun c4 => ?_)
    · have h := h.1 c4
      obtain ⟨y2, ey2⟩ : ∃ y : Int32, y = x4 + 1 := ⟨_, rfl⟩
      have h := h y2 ey2
      refine lv_iinc (v := y2) (lv' := [(4, .int y2), (0, .ref (eA E 15)), (1, .int p1), (2, .int x2), (3, .int x3), (5, .int x5)]) hx hb dX9_isMex_101 hl (k := 4) rfl (by rw [ey2]; first | rfl | decide) (by decide) rfl (fun ls hl => ?_)
      refine lv_goto (tgt := 17) hx hb dX9_isMex_104 (by decide) ?_
      exact h _ _ hw _ (lv_sub hl [1, 2, 3, 4, 0] rfl)
    · have h := h.2 c4
      refine lv_iload_n hx hb dX9_isMex_38 rfl (lv_at hl 2 rfl) ?_
      refine lv_iload hx hb dX9_isMex_39 (lv_at hl 4 rfl) ?_
      refine done_i hw (my_runS (As := [.int x2, .int x4]) (rest := []) C hw (mt_X9_has l C.2.2.2.2.2.2.2 hF _ _ _ h) K_m_X9_118 K_s_X9_has K_n_X9 K_c_X9_has hy_X9_has ⟨Nat.le_of_ble_eq_true rfl, Nat.le_of_ble_eq_true rfl⟩ hl.1 rfl (Nat.le_of_ble_eq_true rfl) dX9_isMex_41 ⟨Nat.zero_le _, Nat.zero_le _⟩) (fun r4 w5 H locs h hw => ?_)
      refine lv_if_eq (tgt := 101) hx hb dX9_isMex_44 (by decide) (fun c5 => ?_) (fun c5 => ?_)
      · have h := h.1 c5
        obtain ⟨y3, ey3⟩ : ∃ y : Int32, y = x4 + 1 := ⟨_, rfl⟩
        have h := h y3 ey3
        refine lv_iinc (v := y3) (lv' := [(4, .int y3), (0, .ref (eA E 15)), (1, .int p1), (2, .int x2), (3, .int x3), (5, .int x5)]) hx hb dX9_isMex_101 hl (k := 4) rfl (by rw [ey3]; first | rfl | decide) (by decide) rfl (fun ls hl => ?_)
        refine lv_goto (tgt := 17) hx hb dX9_isMex_104 (by decide) ?_
        exact h _ _ hw _ (lv_sub hl [1, 2, 3, 4, 0] rfl)
      · have h := h.2 c5
        refine lv_aload_n hx hb dX9_isMex_47 rfl (lv_at hl 0 rfl) ?_
        refine lv_iload_n hx hb dX9_isMex_48 rfl (lv_at hl 1 rfl) ?_
        refine lv_iconst (v := 4) hx hb dX9_isMex_49 (by decide) ?_
        refine done_i hw (my_runV (As := [.int p1, .int 4]) (rest := []) C hw 15 9 (hF 15 (by decide)) rfl rfl (mt_X9_of l C.2.2.2.2.2.2.2 hF _ _ _ h) K_m_X9_173 K_i_X9_of K_v_X9_of K_n_X9 K_c_X9_of hy_X9_of ⟨Nat.le_of_ble_eq_true rfl, Nat.le_of_ble_eq_true rfl⟩ hl.1 rfl (Nat.le_of_ble_eq_true rfl) dX9_isMex_50 ⟨Nat.zero_le _, Nat.zero_le _⟩) (fun r5 w6 H locs h hw => ?_)
        refine lv_iload hx hb dX9_isMex_53 (lv_at hl 5 rfl) ?_
        refine done_i hw (my_runS (As := [.int r5, .int x5]) (rest := []) C hw (mt_X9_has l C.2.2.2.2.2.2.2 hF _ _ _ h) K_m_X9_118 K_s_X9_has K_n_X9 K_c_X9_has hy_X9_has ⟨Nat.le_of_ble_eq_true rfl, Nat.le_of_ble_eq_true rfl⟩ hl.1 rfl (Nat.le_of_ble_eq_true rfl) dX9_isMex_55 ⟨Nat.zero_le _, Nat.zero_le _⟩) (fun r6 w7 H locs h hw => ?_)
        refine lv_if_eq (tgt := 74) hx hb dX9_isMex_58 (by decide) (fun c6 => ?_) (fun c6 => ?_)
        · have h := h.1 c6
          refine lv_iconst (v := (-1)) hx hb dX9_isMex_74 (by decide) ?_
          refine lv_istore (lv' := [(6, .int ((-1))), (0, .ref (eA E 15)), (1, .int p1), (2, .int x2), (3, .int x3), (4, .int x4), (5, .int x5)]) hx hb dX9_isMex_75 hl (by decide) rfl (fun ls hl => ?_)
          refine lv_iload hx hb dX9_isMex_77 (lv_at hl 0 rfl) ?_
          refine lv_iconst (v := (-1)) hx hb dX9_isMex_79 (by decide) ?_
          refine lv_icmp_eq (tgt := 95) hx hb dX9_isMex_80 (by decide) (fun c7 => ?_) (fun c7 => ?_)
          · obtain ⟨y4, ey4⟩ : ∃ y : Int32, y = x5 + 1 := ⟨_, rfl⟩
            have h := h y4 ey4
            refine lv_iinc (v := y4) (lv' := [(5, .int y4), (6, .int ((-1))), (0, .ref (eA E 15)), (1, .int p1), (2, .int x2), (3, .int x3), (4, .int x4)]) hx hb dX9_isMex_95 hl (k := 6) rfl (by rw [ey4]; first | rfl | decide) (by decide) rfl (fun ls hl => ?_)
            refine lv_goto (tgt := 31) hx hb dX9_isMex_98 (by decide) ?_
            exact h _ _ hw _ (lv_sub hl [2, 3, 4, 5, 6, 0] rfl)
          · exact absurd c7 (by decide)
        · have h := h.2 c6
          refine lv_aload_n hx hb dX9_isMex_61 rfl (lv_at hl 0 rfl) ?_
          refine lv_iload_n hx hb dX9_isMex_62 rfl (lv_at hl 1 rfl) ?_
          refine lv_iload_n hx hb dX9_isMex_63 rfl (lv_at hl 2 rfl) ?_
          refine lv_iload hx hb dX9_isMex_64 (lv_at hl 4 rfl) ?_
          refine lv_iload hx hb dX9_isMex_66 (lv_at hl 5 rfl) ?_
          refine done_i hw (my_runV (As := [.int p1, .int x2, .int x4, .int x5]) (rest := []) C hw 15 9 (hF 15 (by decide)) rfl rfl (mt_X9_behind l C.2.2.2.2.2.2.2 hF _ _ _ _ _ h) K_m_X9_180 K_i_X9_behind K_v_X9_behind K_n_X9 K_c_X9_behind hy_X9_behind ⟨Nat.le_of_ble_eq_true rfl, Nat.le_of_ble_eq_true rfl⟩ hl.1 rfl (Nat.le_of_ble_eq_true rfl) dX9_isMex_68 ⟨Nat.zero_le _, Nat.zero_le _⟩) (fun r7 w8 H locs h hw => ?_)
          refine lv_goto (tgt := 75) hx hb dX9_isMex_71 (by decide) ?_
          refine lv_istore (lv' := [(6, .int r7), (0, .ref (eA E 15)), (1, .int p1), (2, .int x2), (3, .int x3), (4, .int x4), (5, .int x5)]) hx hb dX9_isMex_75 hl (by decide) rfl (fun ls hl => ?_)
          refine lv_iload hx hb dX9_isMex_77 (lv_at hl 0 rfl) ?_
          refine lv_iconst (v := (-1)) hx hb dX9_isMex_79 (by decide) ?_
          refine lv_icmp_eq (tgt := 95) hx hb dX9_isMex_80 (by decide) (fun c8 => ?_) (fun c8 => ?_)
          · have h := h.1 c8
            obtain ⟨y5, ey5⟩ : ∃ y : Int32, y = x5 + 1 := ⟨_, rfl⟩
            have h := h y5 ey5
            refine lv_iinc (v := y5) (lv' := [(5, .int y5), (6, .int r7), (0, .ref (eA E 15)), (1, .int p1), (2, .int x2), (3, .int x3), (4, .int x4)]) hx hb dX9_isMex_95 hl (k := 6) rfl (by rw [ey5]; first | rfl | decide) (by decide) rfl (fun ls hl => ?_)
            refine lv_goto (tgt := 31) hx hb dX9_isMex_98 (by decide) ?_
            exact h _ _ hw _ (lv_sub hl [2, 3, 4, 5, 6, 0] rfl)
          · have h := h.2 c8
            refine lv_iload_n hx hb dX9_isMex_83 rfl (lv_at hl 4 rfl) ?_
            refine lv_iconst (v := 1) hx hb dX9_isMex_84 (by decide) ?_
            refine lv_aload_n hx hb dX9_isMex_85 rfl (lv_at hl 1 rfl) ?_
            refine g9_18 C hw (hF 15 (by decide)) K_f_X9_30 dX9_isMex_86 ?_
            refine lv_iload hx hb dX9_isMex_89 (lv_at hl 0 rfl) ?_
            obtain ⟨hi3, h⟩ := h
            refine r_iald C hw 22 8192 (hF 22 (by decide)) rfl hi3 dX9_isMex_91 ?_
            refine lv_ishl hx hb dX9_isMex_92 ?_
            refine lv_ior hx hb dX9_isMex_93 ?_
            refine lv_topi (fun y6 ey6 => ?_)
            have h := h y6 ey6
            refine lv_istore_n (lv' := [(3, .int y6), (6, .int r7), (0, .ref (eA E 15)), (1, .int p1), (2, .int x2), (4, .int x4), (5, .int x5)]) hx hb dX9_isMex_94 rfl hl (by decide) rfl (fun ls hl => ?_)
            obtain ⟨y7, ey7⟩ : ∃ y : Int32, y = x5 + 1 := ⟨_, rfl⟩
            have h := h y7 ey7
            refine lv_iinc (v := y7) (lv' := [(5, .int y7), (3, .int y6), (6, .int r7), (0, .ref (eA E 15)), (1, .int p1), (2, .int x2), (4, .int x4)]) hx hb dX9_isMex_95 hl (k := 6) rfl (by rw [ey7]; first | rfl | decide) (by decide) rfl (fun ls hl => ?_)
            refine lv_goto (tgt := 31) hx hb dX9_isMex_98 (by decide) ?_
            exact h _ _ hw _ (lv_sub hl [3, 4, 5, 1, 6, 0] rfl)
  refine lv_aload_n hx hb dX9_isMex_0 rfl (lv_at hl 0 rfl) ?_
  refine lv_iload_n hx hb dX9_isMex_1 rfl (lv_at hl 1 rfl) ?_
  refine done_v hw (my_runV (As := [.int p1]) (rest := []) C hw 15 9 (hF 15 (by decide)) rfl rfl (mt_X9_lays l C.2.2.2.2.2.2.2 hF _ _ h) K_m_X9_184 K_i_X9_lays K_v_X9_lays K_n_X9 K_c_X9_lays hy_X9_lays ⟨Nat.le_of_ble_eq_true rfl, Nat.le_of_ble_eq_true rfl⟩ hl.1 rfl (Nat.le_of_ble_eq_true rfl) dX9_isMex_2 ⟨Nat.zero_le _, Nat.zero_le _⟩) (fun w1 H locs h hw => ?_)
  refine lv_aload_n hx hb dX9_isMex_5 rfl (lv_at hl 0 rfl) ?_
  refine lv_iload_n hx hb dX9_isMex_6 rfl (lv_at hl 1 rfl) ?_
  refine lv_iconst (v := 2) hx hb dX9_isMex_7 (by decide) ?_
  refine done_i hw (my_runV (As := [.int p1, .int 2]) (rest := []) C hw 15 9 (hF 15 (by decide)) rfl rfl (mt_X9_of l C.2.2.2.2.2.2.2 hF _ _ _ h) K_m_X9_173 K_i_X9_of K_v_X9_of K_n_X9 K_c_X9_of hy_X9_of ⟨Nat.le_of_ble_eq_true rfl, Nat.le_of_ble_eq_true rfl⟩ hl.1 rfl (Nat.le_of_ble_eq_true rfl) dX9_isMex_8 ⟨Nat.zero_le _, Nat.zero_le _⟩) (fun r1 w2 H locs h hw => ?_)
  refine lv_istore_n (lv' := [(2, .int r1), (0, .ref (eA E 15)), (1, .int p1)]) hx hb dX9_isMex_11 rfl hl (by decide) rfl (fun ls hl => ?_)
  refine lv_iconst (v := 0) hx hb dX9_isMex_12 (by decide) ?_
  refine lv_istore_n (lv' := [(3, .int 0), (2, .int r1), (0, .ref (eA E 15)), (1, .int p1)]) hx hb dX9_isMex_13 rfl hl (by decide) rfl (fun ls hl => ?_)
  refine lv_iconst (v := 1) hx hb dX9_isMex_14 (by decide) ?_
  refine lv_istore (lv' := [(4, .int 1), (3, .int 0), (2, .int r1), (0, .ref (eA E 15)), (1, .int p1)]) hx hb dX9_isMex_15 hl (by decide) rfl (fun ls hl => ?_)
  exact h _ _ hw _ (lv_sub hl [3, 4, 2, 1, 0] rfl)
theorem hy_X9_isRight : yX9_isRight.cls ≠ "java/lang/invoke/MethodHandle" ∧ yX9_isRight.cls ≠ "java/lang/invoke/VarHandle" ∧ (parseMethodDescriptor yX9_isRight.desc).map (fun d => d.parameters.length) = some 0 := by decide +kernel
def wp_X9_isRight (w : Wd) (Post : Int32 → Wd → Prop) : Prop :=
  ∀ J9 : Int32 → Int32 → Wd → Prop, (∀ (x1 : Int32) (x2 : Int32) (w : Wd), (wp_X9_ladders w (fun r1 w1 => (r1 ≤ x2 → ((x1 = 0 ∨ x1 = 1) ∧ Post x1 w1)) ∧ (¬ r1 ≤ x2 → ((x1 = 0 → (∀ y1 : Int32, y1 = x2 + 1 → (J9 0 y1 w1))) ∧ (¬ x1 = 0 → (wp_X9_isMex w1 x2 (fun r2 w2 => (r2 = 0 → (∀ y2 : Int32, y2 = x2 + 1 → (J9 0 y2 w2))) ∧ (¬ r2 = 0 → (∀ y3 : Int32, y3 = x2 + 1 → (J9 1 y3 w2)))))))))) → J9 x1 x2 w) →
  J9 1 0 (sI w 15 0 0)
set_option maxHeartbeats 4000000 in
set_option maxRecDepth 100000 in
theorem mt_X9_isRight (l : Launch) {E : En} (hI : Inj E) (hF : ∀ o, (15 ≤ o ∧ o < 25) → o ∈ eL E) (w : Wd) {Post : Int32 → Wd → Prop} (h : wp_X9_isRight w Post) : MI l E yX9_isRight cX9_isRight 3 (some .boolean) 6 144 [.ref (eA E 15)] w Post := by
  refine MG.intro hI (by decide +kernel) (Nat.le_of_ble_eq_true rfl) ?_
  intro p e s m args below meth c Q C hr hlk hQ hw ls hl
  have hx := C.1
  have hb := C.2.1
  have hl : lv_has ls 3 [(0, .ref (eA E 15))] := hl
  unfold wp_X9_isRight at h
  have h := h (fun x1 x2 w => Jp E p l e (Rm 6 144) s m args below meth c Q 3 9 [(0, .ref (eA E 15)), (1, .int x1), (2, .int x2)] w)
  have h := h ?_
  rotate_left
  · intro x1 x2 w h H locs hw ls hl
    refine lv_iload_n hx hb dX9_isRight_9 rfl (lv_at hl 2 rfl) ?_
    refine lv_aload_n hx hb dX9_isRight_10 rfl (lv_at hl 0 rfl) ?_
    refine done_i hw (my_runV (As := []) (rest := [.int x2]) C hw 15 9 (hF 15 (by decide)) rfl rfl (mt_X9_ladders l C.2.2.2.2.2.2.2 hF _ h) K_m_X9_163 K_i_X9_ladders K_v_X9_ladders K_n_X9 K_c_X9_ladders hy_X9_ladders ⟨Nat.le_of_ble_eq_true rfl, Nat.le_of_ble_eq_true rfl⟩ hl.1 rfl (Nat.le_of_ble_eq_true rfl) dX9_isRight_11 ⟨Nat.zero_le _, Nat.zero_le _⟩) (fun r1 w1 H locs h hw => ?_)
    refine lv_icmp_ge (tgt := 41) hx hb dX9_isRight_14 (by decide) (fun c1 => ?_) (fun c1 => ?_)
    · have h := h.1 c1
      refine lv_iload_n hx hb dX9_isRight_41 rfl (lv_at hl 1 rfl) ?_
      rw [hQ]
      exact ret_z C hr hlk hw h.2 h.1 dX9_isRight_42
    · have h := h.2 c1
      refine lv_iload_n hx hb dX9_isRight_17 rfl (lv_at hl 1 rfl) ?_
      refine lv_if_eq (tgt := 33) hx hb dX9_isRight_18 (by decide) (fun c2 => ?_) (fun c2 => ?_)
      · have h := h.1 c2
        refine lv_iconst (v := 0) hx hb dX9_isRight_33 (by decide) ?_
        refine lv_istore_n (lv' := [(1, .int 0), (0, .ref (eA E 15)), (2, .int x2)]) hx hb dX9_isRight_34 rfl hl (by decide) rfl (fun ls hl => ?_)
        obtain ⟨y1, ey1⟩ : ∃ y : Int32, y = x2 + 1 := ⟨_, rfl⟩
        have h := h y1 ey1
        refine lv_iinc (v := y1) (lv' := [(2, .int y1), (1, .int 0), (0, .ref (eA E 15))]) hx hb dX9_isRight_35 hl (k := 2) rfl (by rw [ey1]; first | rfl | decide) (by decide) rfl (fun ls hl => ?_)
        refine lv_goto (tgt := 9) hx hb dX9_isRight_38 (by decide) ?_
        exact h _ _ hw _ (lv_sub hl [2, 1, 0] rfl)
      · have h := h.2 c2
        refine lv_aload_n hx hb dX9_isRight_21 rfl (lv_at hl 0 rfl) ?_
        refine lv_iload_n hx hb dX9_isRight_22 rfl (lv_at hl 2 rfl) ?_
        refine done_i hw (my_runV (As := [.int x2]) (rest := []) C hw 15 9 (hF 15 (by decide)) rfl rfl (mt_X9_isMex l C.2.2.2.2.2.2.2 hF _ _ h) K_m_X9_217 K_i_X9_isMex K_v_X9_isMex K_n_X9 K_c_X9_isMex hy_X9_isMex ⟨Nat.le_of_ble_eq_true rfl, Nat.le_of_ble_eq_true rfl⟩ hl.1 rfl (Nat.le_of_ble_eq_true rfl) dX9_isRight_23 ⟨Nat.zero_le _, Nat.zero_le _⟩) (fun r2 w2 H locs h hw => ?_)
        refine lv_if_eq (tgt := 33) hx hb dX9_isRight_26 (by decide) (fun c3 => ?_) (fun c3 => ?_)
        · have h := h.1 c3
          refine lv_iconst (v := 0) hx hb dX9_isRight_33 (by decide) ?_
          refine lv_istore_n (lv' := [(1, .int 0), (0, .ref (eA E 15)), (2, .int x2)]) hx hb dX9_isRight_34 rfl hl (by decide) rfl (fun ls hl => ?_)
          obtain ⟨y2, ey2⟩ : ∃ y : Int32, y = x2 + 1 := ⟨_, rfl⟩
          have h := h y2 ey2
          refine lv_iinc (v := y2) (lv' := [(2, .int y2), (1, .int 0), (0, .ref (eA E 15))]) hx hb dX9_isRight_35 hl (k := 2) rfl (by rw [ey2]; first | rfl | decide) (by decide) rfl (fun ls hl => ?_)
          refine lv_goto (tgt := 9) hx hb dX9_isRight_38 (by decide) ?_
          exact h _ _ hw _ (lv_sub hl [2, 1, 0] rfl)
        · have h := h.2 c3
          refine lv_iconst (v := 1) hx hb dX9_isRight_29 (by decide) ?_
          refine lv_goto (tgt := 34) hx hb dX9_isRight_30 (by decide) ?_
          refine lv_istore_n (lv' := [(1, .int 1), (0, .ref (eA E 15)), (2, .int x2)]) hx hb dX9_isRight_34 rfl hl (by decide) rfl (fun ls hl => ?_)
          obtain ⟨y3, ey3⟩ : ∃ y : Int32, y = x2 + 1 := ⟨_, rfl⟩
          have h := h y3 ey3
          refine lv_iinc (v := y3) (lv' := [(2, .int y3), (1, .int 1), (0, .ref (eA E 15))]) hx hb dX9_isRight_35 hl (k := 2) rfl (by rw [ey3]; first | rfl | decide) (by decide) rfl (fun ls hl => ?_)
          refine lv_goto (tgt := 9) hx hb dX9_isRight_38 (by decide) ?_
          exact h _ _ hw _ (lv_sub hl [2, 1, 0] rfl)
  refine lv_aload_n hx hb dX9_isRight_0 rfl (lv_at hl 0 rfl) ?_
  refine lv_iconst (v := 0) hx hb dX9_isRight_1 (by decide) ?_
  refine p9_0 C hw (hF 15 (by decide)) K_f_X9_45 dX9_isRight_2 (fun H locs hw => ?_)
  refine lv_iconst (v := 1) hx hb dX9_isRight_5 (by decide) ?_
  refine lv_istore_n (lv' := [(1, .int 1), (0, .ref (eA E 15))]) hx hb dX9_isRight_6 rfl hl (by decide) rfl (fun ls hl => ?_)
  refine lv_iconst (v := 0) hx hb dX9_isRight_7 (by decide) ?_
  refine lv_istore_n (lv' := [(2, .int 0), (1, .int 1), (0, .ref (eA E 15))]) hx hb dX9_isRight_8 rfl hl (by decide) rfl (fun ls hl => ?_)
  exact h _ _ hw _ (lv_sub hl [2, 1, 0] rfl)
theorem hy_X9_barred : yX9_barred.cls ≠ "java/lang/invoke/MethodHandle" ∧ yX9_barred.cls ≠ "java/lang/invoke/VarHandle" ∧ (parseMethodDescriptor yX9_barred.desc).map (fun d => d.parameters.length) = some 3 := by decide +kernel
def wp_X9_barred (w : Wd) (p1 : Int32) (p2 : Int32) (p3 : Int32) (Post : Int32 → Wd → Prop) : Prop :=
  wp_X9_of w p1 5 (fun r1 w1 => (r1 = (1 - (gA w1 18 55)) → (Post 8 w1)) ∧ (¬ r1 = (1 - (gA w1 18 55)) → (((gA w1 18 57) = p1 → (((gA w1 18 58) = p2 → (((gA w1 18 59) = p3 → (Post 9 w1)) ∧ (¬ (gA w1 18 59) = p3 → (Post 0 w1)))) ∧ (¬ (gA w1 18 58) = p2 → (Post 0 w1)))) ∧ (¬ (gA w1 18 57) = p1 → (Post 0 w1)))))
set_option maxHeartbeats 4000000 in
set_option maxRecDepth 100000 in
theorem mt_X9_barred (l : Launch) {E : En} (hI : Inj E) (hF : ∀ o, (15 ≤ o ∧ o < 25) → o ∈ eL E) (w : Wd) (p1 : Int32) (p2 : Int32) (p3 : Int32) {Post : Int32 → Wd → Prop} (h : wp_X9_barred w p1 p2 p3 Post) : MI l E yX9_barred cX9_barred 4 (some .int) 2 42 [.ref (eA E 15), .int p1, .int p2, .int p3] w Post := by
  refine MG.intro hI (by decide +kernel) (Nat.le_of_ble_eq_true rfl) ?_
  intro p e s m args below meth c Q C hr hlk hQ hw ls hl
  have hx := C.1
  have hb := C.2.1
  have hl : lv_has ls 4 [(0, .ref (eA E 15)), (1, .int p1), (2, .int p2), (3, .int p3)] := hl
  unfold wp_X9_barred at h
  refine lv_aload_n hx hb dX9_barred_0 rfl (lv_at hl 0 rfl) ?_
  refine lv_iload_n hx hb dX9_barred_1 rfl (lv_at hl 1 rfl) ?_
  refine lv_iconst (v := 5) hx hb dX9_barred_2 (by decide) ?_
  refine done_i hw (my_runV (As := [.int p1, .int 5]) (rest := []) C hw 15 9 (hF 15 (by decide)) rfl rfl (mt_X9_of l C.2.2.2.2.2.2.2 hF _ _ _ h) K_m_X9_173 K_i_X9_of K_v_X9_of K_n_X9 K_c_X9_of hy_X9_of ⟨Nat.le_of_ble_eq_true rfl, Nat.le_of_ble_eq_true rfl⟩ hl.1 rfl (Nat.le_of_ble_eq_true rfl) dX9_barred_3 ⟨Nat.zero_le _, Nat.zero_le _⟩) (fun r1 w1 H locs h hw => ?_)
  refine lv_iconst (v := 1) hx hb dX9_barred_6 (by decide) ?_
  refine lv_aload_n hx hb dX9_barred_7 rfl (lv_at hl 0 rfl) ?_
  refine g9_13 C hw (hF 15 (by decide)) K_f_X9_17 dX9_barred_8 ?_
  refine lv_bipush (v := 55) hx hb dX9_barred_11 (by decide) ?_
  refine r_iald C hw 18 140 (hF 18 (by decide)) rfl (vp_lit (by decide)) dX9_barred_13 ?_
  refine lv_isub hx hb dX9_barred_14 ?_
  refine lv_icmp_ne (tgt := 21) hx hb dX9_barred_15 (by decide) (fun c1 => ?_) (fun c1 => ?_)
  · have h := h.2 c1
    refine lv_aload_n hx hb dX9_barred_21 rfl (lv_at hl 0 rfl) ?_
    refine g9_13 C hw (hF 15 (by decide)) K_f_X9_17 dX9_barred_22 ?_
    refine lv_bipush (v := 57) hx hb dX9_barred_25 (by decide) ?_
    refine r_iald C hw 18 140 (hF 18 (by decide)) rfl (vp_lit (by decide)) dX9_barred_27 ?_
    refine lv_iload_n hx hb dX9_barred_28 rfl (lv_at hl 1 rfl) ?_
    refine lv_icmp_ne (tgt := 59) hx hb dX9_barred_29 (by decide) (fun c2 => ?_) (fun c2 => ?_)
    · have h := h.2 c2
      refine lv_iconst (v := 0) hx hb dX9_barred_59 (by decide) ?_
      rw [hQ]
      exact ret_i C hr hlk hw h dX9_barred_60
    · have h := h.1 c2
      refine lv_aload_n hx hb dX9_barred_32 rfl (lv_at hl 0 rfl) ?_
      refine g9_13 C hw (hF 15 (by decide)) K_f_X9_17 dX9_barred_33 ?_
      refine lv_bipush (v := 58) hx hb dX9_barred_36 (by decide) ?_
      refine r_iald C hw 18 140 (hF 18 (by decide)) rfl (vp_lit (by decide)) dX9_barred_38 ?_
      refine lv_iload_n hx hb dX9_barred_39 rfl (lv_at hl 2 rfl) ?_
      refine lv_icmp_ne (tgt := 59) hx hb dX9_barred_40 (by decide) (fun c3 => ?_) (fun c3 => ?_)
      · have h := h.2 c3
        refine lv_iconst (v := 0) hx hb dX9_barred_59 (by decide) ?_
        rw [hQ]
        exact ret_i C hr hlk hw h dX9_barred_60
      · have h := h.1 c3
        refine lv_aload_n hx hb dX9_barred_43 rfl (lv_at hl 0 rfl) ?_
        refine g9_13 C hw (hF 15 (by decide)) K_f_X9_17 dX9_barred_44 ?_
        refine lv_bipush (v := 59) hx hb dX9_barred_47 (by decide) ?_
        refine r_iald C hw 18 140 (hF 18 (by decide)) rfl (vp_lit (by decide)) dX9_barred_49 ?_
        refine lv_iload_n hx hb dX9_barred_50 rfl (lv_at hl 3 rfl) ?_
        refine lv_icmp_ne (tgt := 59) hx hb dX9_barred_51 (by decide) (fun c4 => ?_) (fun c4 => ?_)
        · have h := h.2 c4
          refine lv_iconst (v := 0) hx hb dX9_barred_59 (by decide) ?_
          rw [hQ]
          exact ret_i C hr hlk hw h dX9_barred_60
        · have h := h.1 c4
          refine lv_bipush (v := 9) hx hb dX9_barred_54 (by decide) ?_
          refine lv_goto (tgt := 60) hx hb dX9_barred_56 (by decide) ?_
          rw [hQ]
          exact ret_i C hr hlk hw h dX9_barred_60
  · have h := h.1 c1
    refine lv_bipush (v := 8) hx hb dX9_barred_18 (by decide) ?_
    rw [hQ]
    exact ret_i C hr hlk hw h dX9_barred_20
theorem hy_X9_whyStep : yX9_whyStep.cls ≠ "java/lang/invoke/MethodHandle" ∧ yX9_whyStep.cls ≠ "java/lang/invoke/VarHandle" ∧ (parseMethodDescriptor yX9_whyStep.desc).map (fun d => d.parameters.length) = some 3 := by decide +kernel
def wp_X9_whyStep (w : Wd) (p1 : Int32) (p2 : Int32) (p3 : Int32) (Post : Int32 → Wd → Prop) : Prop :=
  wp_X9_isOver w (fun r1 w1 => (r1 = 0 → (wp_X9_isLadder w1 p1 (fun r2 w2 => (r2 = 0 → (Post 2 w2)) ∧ (¬ r2 = 0 → (wp_X9_of w2 p1 0 (fun r3 w3 => wp_X9_within w3 p2 1 r3 (fun r4 w4 => (r4 = 0 → (Post 3 w4)) ∧ (¬ r4 = 0 → (wp_X9_of w4 p1 2 (fun r5 w5 => wp_X9_has w5 r5 p2 (fun r6 w6 => (r6 = 0 → (Post 3 w6)) ∧ (¬ r6 = 0 → (wp_X9_within w6 p3 1 12 (fun r7 w7 => (r7 = 0 → (Post 4 w7)) ∧ (¬ r7 = 0 → (wp_X9_of w7 p1 4 (fun r8 w8 => wp_X9_has w8 r8 p3 (fun r9 w9 => (r9 = 0 → (Post 4 w9)) ∧ (¬ r9 = 0 → (∀ y1 : Int32, y1 = p2 - p3 → ((0 ≤ y1 → ((y1 ≤ 0 → ((y1 ≤ 0 → (wp_X9_barred w9 p1 p2 p3 (fun r10 w10 => Post r10 w10))) ∧ (¬ y1 ≤ 0 → (wp_X9_of w9 p1 2 (fun r11 w11 => wp_X9_has w11 r11 y1 (fun r12 w12 => (r12 = 0 → (wp_X9_barred w12 p1 p2 p3 (fun r13 w13 => Post r13 w13))) ∧ (¬ r12 = 0 → (Post 7 w12)))))))) ∧ (¬ y1 ≤ 0 → (wp_X9_of w9 p1 3 (fun r14 w14 => wp_X9_has w14 r14 y1 (fun r15 w15 => (r15 = 0 → ((y1 ≤ 0 → (wp_X9_barred w15 p1 p2 p3 (fun r16 w16 => Post r16 w16))) ∧ (¬ y1 ≤ 0 → (wp_X9_of w15 p1 2 (fun r17 w17 => wp_X9_has w17 r17 y1 (fun r18 w18 => (r18 = 0 → (wp_X9_barred w18 p1 p2 p3 (fun r19 w19 => Post r19 w19))) ∧ (¬ r18 = 0 → (Post 7 w18)))))))) ∧ (¬ r15 = 0 → (Post 6 w15)))))))) ∧ (¬ 0 ≤ y1 → (Post 5 w9))))))))))))))))))))))) ∧ (¬ r1 = 0 → (Post 1 w1)))
set_option maxHeartbeats 4000000 in
set_option maxRecDepth 100000 in
theorem mt_X9_whyStep (l : Launch) {E : En} (hI : Inj E) (hF : ∀ o, (15 ≤ o ∧ o < 25) → o ∈ eL E) (w : Wd) (p1 : Int32) (p2 : Int32) (p3 : Int32) {Post : Int32 → Wd → Prop} (h : wp_X9_whyStep w p1 p2 p3 Post) : MI l E yX9_whyStep cX9_whyStep 5 (some .int) 5 114 [.ref (eA E 15), .int p1, .int p2, .int p3] w Post := by
  refine MG.intro hI (by decide +kernel) (Nat.le_of_ble_eq_true rfl) ?_
  intro p e s m args below meth c Q C hr hlk hQ hw ls hl
  have hx := C.1
  have hb := C.2.1
  have hl : lv_has ls 5 [(0, .ref (eA E 15)), (1, .int p1), (2, .int p2), (3, .int p3)] := hl
  unfold wp_X9_whyStep at h
  refine lv_aload_n hx hb dX9_whyStep_0 rfl (lv_at hl 0 rfl) ?_
  refine done_i hw (my_runV (As := []) (rest := []) C hw 15 9 (hF 15 (by decide)) rfl rfl (mt_X9_isOver l C.2.2.2.2.2.2.2 hF _ h) K_m_X9_193 K_i_X9_isOver K_v_X9_isOver K_n_X9 K_c_X9_isOver hy_X9_isOver ⟨Nat.le_of_ble_eq_true rfl, Nat.le_of_ble_eq_true rfl⟩ hl.1 rfl (Nat.le_of_ble_eq_true rfl) dX9_whyStep_1 ⟨Nat.zero_le _, Nat.zero_le _⟩) (fun r1 w1 H locs h hw => ?_)
  refine lv_if_eq (tgt := 9) hx hb dX9_whyStep_4 (by decide) (fun c1 => ?_) (fun c1 => ?_)
  · have h := h.1 c1
    refine lv_aload_n hx hb dX9_whyStep_9 rfl (lv_at hl 0 rfl) ?_
    refine lv_iload_n hx hb dX9_whyStep_10 rfl (lv_at hl 1 rfl) ?_
    refine done_i hw (my_runV (As := [.int p1]) (rest := []) C hw 15 9 (hF 15 (by decide)) rfl rfl (mt_X9_isLadder l C.2.2.2.2.2.2.2 hF _ _ h) K_m_X9_197 K_i_X9_isLadder K_v_X9_isLadder K_n_X9 K_c_X9_isLadder hy_X9_isLadder ⟨Nat.le_of_ble_eq_true rfl, Nat.le_of_ble_eq_true rfl⟩ hl.1 rfl (Nat.le_of_ble_eq_true rfl) dX9_whyStep_11 ⟨Nat.zero_le _, Nat.zero_le _⟩) (fun r2 w2 H locs h hw => ?_)
    refine lv_if_ne (tgt := 19) hx hb dX9_whyStep_14 (by decide) (fun c2 => ?_) (fun c2 => ?_)
    · have h := h.2 c2
      refine lv_iload_n hx hb dX9_whyStep_19 rfl (lv_at hl 2 rfl) ?_
      refine lv_iconst (v := 1) hx hb dX9_whyStep_20 (by decide) ?_
      refine lv_aload_n hx hb dX9_whyStep_21 rfl (lv_at hl 0 rfl) ?_
      refine lv_iload_n hx hb dX9_whyStep_22 rfl (lv_at hl 1 rfl) ?_
      refine lv_iconst (v := 0) hx hb dX9_whyStep_23 (by decide) ?_
      refine done_i hw (my_runV (As := [.int p1, .int 0]) (rest := [.int 1, .int p2]) C hw 15 9 (hF 15 (by decide)) rfl rfl (mt_X9_of l C.2.2.2.2.2.2.2 hF _ _ _ h) K_m_X9_173 K_i_X9_of K_v_X9_of K_n_X9 K_c_X9_of hy_X9_of ⟨Nat.le_of_ble_eq_true rfl, Nat.le_of_ble_eq_true rfl⟩ hl.1 rfl (Nat.le_of_ble_eq_true rfl) dX9_whyStep_24 ⟨Nat.zero_le _, Nat.zero_le _⟩) (fun r3 w3 H locs h hw => ?_)
      refine done_i hw (my_runS (As := [.int p2, .int 1, .int r3]) (rest := []) C hw (mt_X9_within l C.2.2.2.2.2.2.2 hF _ _ _ _ h) K_m_X9_72 K_s_X9_within K_n_X9 K_c_X9_within hy_X9_within ⟨Nat.le_of_ble_eq_true rfl, Nat.le_of_ble_eq_true rfl⟩ hl.1 rfl (Nat.le_of_ble_eq_true rfl) dX9_whyStep_27 ⟨Nat.zero_le _, Nat.zero_le _⟩) (fun r4 w4 H locs h hw => ?_)
      refine lv_if_eq (tgt := 46) hx hb dX9_whyStep_30 (by decide) (fun c3 => ?_) (fun c3 => ?_)
      · have h := h.1 c3
        refine lv_iconst (v := 3) hx hb dX9_whyStep_46 (by decide) ?_
        rw [hQ]
        exact ret_i C hr hlk hw h dX9_whyStep_47
      · have h := h.2 c3
        refine lv_aload_n hx hb dX9_whyStep_33 rfl (lv_at hl 0 rfl) ?_
        refine lv_iload_n hx hb dX9_whyStep_34 rfl (lv_at hl 1 rfl) ?_
        refine lv_iconst (v := 2) hx hb dX9_whyStep_35 (by decide) ?_
        refine done_i hw (my_runV (As := [.int p1, .int 2]) (rest := []) C hw 15 9 (hF 15 (by decide)) rfl rfl (mt_X9_of l C.2.2.2.2.2.2.2 hF _ _ _ h) K_m_X9_173 K_i_X9_of K_v_X9_of K_n_X9 K_c_X9_of hy_X9_of ⟨Nat.le_of_ble_eq_true rfl, Nat.le_of_ble_eq_true rfl⟩ hl.1 rfl (Nat.le_of_ble_eq_true rfl) dX9_whyStep_36 ⟨Nat.zero_le _, Nat.zero_le _⟩) (fun r5 w5 H locs h hw => ?_)
        refine lv_iload_n hx hb dX9_whyStep_39 rfl (lv_at hl 2 rfl) ?_
        refine done_i hw (my_runS (As := [.int r5, .int p2]) (rest := []) C hw (mt_X9_has l C.2.2.2.2.2.2.2 hF _ _ _ h) K_m_X9_118 K_s_X9_has K_n_X9 K_c_X9_has hy_X9_has ⟨Nat.le_of_ble_eq_true rfl, Nat.le_of_ble_eq_true rfl⟩ hl.1 rfl (Nat.le_of_ble_eq_true rfl) dX9_whyStep_40 ⟨Nat.zero_le _, Nat.zero_le _⟩) (fun r6 w6 H locs h hw => ?_)
        refine lv_if_ne (tgt := 48) hx hb dX9_whyStep_43 (by decide) (fun c4 => ?_) (fun c4 => ?_)
        · have h := h.2 c4
          refine lv_iload_n hx hb dX9_whyStep_48 rfl (lv_at hl 3 rfl) ?_
          refine lv_iconst (v := 1) hx hb dX9_whyStep_49 (by decide) ?_
          refine lv_bipush (v := 12) hx hb dX9_whyStep_50 (by decide) ?_
          refine done_i hw (my_runS (As := [.int p3, .int 1, .int 12]) (rest := []) C hw (mt_X9_within l C.2.2.2.2.2.2.2 hF _ _ _ _ h) K_m_X9_72 K_s_X9_within K_n_X9 K_c_X9_within hy_X9_within ⟨Nat.le_of_ble_eq_true rfl, Nat.le_of_ble_eq_true rfl⟩ hl.1 rfl (Nat.le_of_ble_eq_true rfl) dX9_whyStep_52 ⟨Nat.zero_le _, Nat.zero_le _⟩) (fun r7 w7 H locs h hw => ?_)
          refine lv_if_eq (tgt := 71) hx hb dX9_whyStep_55 (by decide) (fun c5 => ?_) (fun c5 => ?_)
          · have h := h.1 c5
            refine lv_iconst (v := 4) hx hb dX9_whyStep_71 (by decide) ?_
            rw [hQ]
            exact ret_i C hr hlk hw h dX9_whyStep_72
          · have h := h.2 c5
            refine lv_aload_n hx hb dX9_whyStep_58 rfl (lv_at hl 0 rfl) ?_
            refine lv_iload_n hx hb dX9_whyStep_59 rfl (lv_at hl 1 rfl) ?_
            refine lv_iconst (v := 4) hx hb dX9_whyStep_60 (by decide) ?_
            refine done_i hw (my_runV (As := [.int p1, .int 4]) (rest := []) C hw 15 9 (hF 15 (by decide)) rfl rfl (mt_X9_of l C.2.2.2.2.2.2.2 hF _ _ _ h) K_m_X9_173 K_i_X9_of K_v_X9_of K_n_X9 K_c_X9_of hy_X9_of ⟨Nat.le_of_ble_eq_true rfl, Nat.le_of_ble_eq_true rfl⟩ hl.1 rfl (Nat.le_of_ble_eq_true rfl) dX9_whyStep_61 ⟨Nat.zero_le _, Nat.zero_le _⟩) (fun r8 w8 H locs h hw => ?_)
            refine lv_iload_n hx hb dX9_whyStep_64 rfl (lv_at hl 3 rfl) ?_
            refine done_i hw (my_runS (As := [.int r8, .int p3]) (rest := []) C hw (mt_X9_has l C.2.2.2.2.2.2.2 hF _ _ _ h) K_m_X9_118 K_s_X9_has K_n_X9 K_c_X9_has hy_X9_has ⟨Nat.le_of_ble_eq_true rfl, Nat.le_of_ble_eq_true rfl⟩ hl.1 rfl (Nat.le_of_ble_eq_true rfl) dX9_whyStep_65 ⟨Nat.zero_le _, Nat.zero_le _⟩) (fun r9 w9 H locs h hw => ?_)
            refine lv_if_ne (tgt := 73) hx hb dX9_whyStep_68 (by decide) (fun c6 => ?_) (fun c6 => ?_)
            · have h := h.2 c6
              refine lv_iload_n hx hb dX9_whyStep_73 rfl (lv_at hl 2 rfl) ?_
              refine lv_iload_n hx hb dX9_whyStep_74 rfl (lv_at hl 3 rfl) ?_
              refine lv_isub hx hb dX9_whyStep_75 ?_
              refine lv_topi (fun y1 ey1 => ?_)
              have h := h y1 ey1
              refine lv_istore (lv' := [(4, .int y1), (0, .ref (eA E 15)), (1, .int p1), (2, .int p2), (3, .int p3)]) hx hb dX9_whyStep_76 hl (by decide) rfl (fun ls hl => ?_)
              refine lv_iload hx hb dX9_whyStep_78 (lv_at hl 0 rfl) ?_
              refine lv_if_ge (tgt := 85) hx hb dX9_whyStep_80 (by decide) (fun c7 => ?_) (fun c7 => ?_)
              · have h := h.1 c7
                refine lv_iload hx hb dX9_whyStep_85 (lv_at hl 0 rfl) ?_
                refine lv_if_le (tgt := 107) hx hb dX9_whyStep_87 (by decide) (fun c8 => ?_) (fun c8 => ?_)
                · have h := h.1 c8
                  refine lv_iload hx hb dX9_whyStep_107 (lv_at hl 0 rfl) ?_
                  refine lv_if_le (tgt := 129) hx hb dX9_whyStep_109 (by decide) (fun c9 => ?_) (fun c9 => ?_)
                  · have h := h.1 c9
                    refine lv_aload_n hx hb dX9_whyStep_129 rfl (lv_at hl 1 rfl) ?_
                    refine lv_iload_n hx hb dX9_whyStep_130 rfl (lv_at hl 2 rfl) ?_
                    refine lv_iload_n hx hb dX9_whyStep_131 rfl (lv_at hl 3 rfl) ?_
                    refine lv_iload_n hx hb dX9_whyStep_132 rfl (lv_at hl 4 rfl) ?_
                    refine done_i hw (my_runV (As := [.int p1, .int p2, .int p3]) (rest := []) C hw 15 9 (hF 15 (by decide)) rfl rfl (mt_X9_barred l C.2.2.2.2.2.2.2 hF _ _ _ _ h) K_m_X9_220 K_i_X9_barred K_v_X9_barred K_n_X9 K_c_X9_barred hy_X9_barred ⟨Nat.le_of_ble_eq_true rfl, Nat.le_of_ble_eq_true rfl⟩ hl.1 rfl (Nat.le_of_ble_eq_true rfl) dX9_whyStep_133 ⟨Nat.zero_le _, Nat.zero_le _⟩) (fun r10 w10 H locs h hw => ?_)
                    rw [hQ]
                    exact ret_i C hr hlk hw h dX9_whyStep_136
                  · have h := h.2 c9
                    refine lv_aload_n hx hb dX9_whyStep_112 rfl (lv_at hl 1 rfl) ?_
                    refine lv_iload_n hx hb dX9_whyStep_113 rfl (lv_at hl 2 rfl) ?_
                    refine lv_iconst (v := 2) hx hb dX9_whyStep_114 (by decide) ?_
                    refine done_i hw (my_runV (As := [.int p1, .int 2]) (rest := []) C hw 15 9 (hF 15 (by decide)) rfl rfl (mt_X9_of l C.2.2.2.2.2.2.2 hF _ _ _ h) K_m_X9_173 K_i_X9_of K_v_X9_of K_n_X9 K_c_X9_of hy_X9_of ⟨Nat.le_of_ble_eq_true rfl, Nat.le_of_ble_eq_true rfl⟩ hl.1 rfl (Nat.le_of_ble_eq_true rfl) dX9_whyStep_115 ⟨Nat.zero_le _, Nat.zero_le _⟩) (fun r11 w11 H locs h hw => ?_)
                    refine lv_iload hx hb dX9_whyStep_118 (lv_at hl 0 rfl) ?_
                    refine done_i hw (my_runS (As := [.int r11, .int y1]) (rest := []) C hw (mt_X9_has l C.2.2.2.2.2.2.2 hF _ _ _ h) K_m_X9_118 K_s_X9_has K_n_X9 K_c_X9_has hy_X9_has ⟨Nat.le_of_ble_eq_true rfl, Nat.le_of_ble_eq_true rfl⟩ hl.1 rfl (Nat.le_of_ble_eq_true rfl) dX9_whyStep_120 ⟨Nat.zero_le _, Nat.zero_le _⟩) (fun r12 w12 H locs h hw => ?_)
                    refine lv_if_eq (tgt := 129) hx hb dX9_whyStep_123 (by decide) (fun c10 => ?_) (fun c10 => ?_)
                    · have h := h.1 c10
                      refine lv_aload_n hx hb dX9_whyStep_129 rfl (lv_at hl 1 rfl) ?_
                      refine lv_iload_n hx hb dX9_whyStep_130 rfl (lv_at hl 2 rfl) ?_
                      refine lv_iload_n hx hb dX9_whyStep_131 rfl (lv_at hl 3 rfl) ?_
                      refine lv_iload_n hx hb dX9_whyStep_132 rfl (lv_at hl 4 rfl) ?_
                      refine done_i hw (my_runV (As := [.int p1, .int p2, .int p3]) (rest := []) C hw 15 9 (hF 15 (by decide)) rfl rfl (mt_X9_barred l C.2.2.2.2.2.2.2 hF _ _ _ _ h) K_m_X9_220 K_i_X9_barred K_v_X9_barred K_n_X9 K_c_X9_barred hy_X9_barred ⟨Nat.le_of_ble_eq_true rfl, Nat.le_of_ble_eq_true rfl⟩ hl.1 rfl (Nat.le_of_ble_eq_true rfl) dX9_whyStep_133 ⟨Nat.zero_le _, Nat.zero_le _⟩) (fun r13 w13 H locs h hw => ?_)
                      rw [hQ]
                      exact ret_i C hr hlk hw h dX9_whyStep_136
                    · have h := h.2 c10
                      refine lv_bipush (v := 7) hx hb dX9_whyStep_126 (by decide) ?_
                      rw [hQ]
                      exact ret_i C hr hlk hw h dX9_whyStep_128
                · have h := h.2 c8
                  refine lv_aload_n hx hb dX9_whyStep_90 rfl (lv_at hl 1 rfl) ?_
                  refine lv_iload_n hx hb dX9_whyStep_91 rfl (lv_at hl 2 rfl) ?_
                  refine lv_iconst (v := 3) hx hb dX9_whyStep_92 (by decide) ?_
                  refine done_i hw (my_runV (As := [.int p1, .int 3]) (rest := []) C hw 15 9 (hF 15 (by decide)) rfl rfl (mt_X9_of l C.2.2.2.2.2.2.2 hF _ _ _ h) K_m_X9_173 K_i_X9_of K_v_X9_of K_n_X9 K_c_X9_of hy_X9_of ⟨Nat.le_of_ble_eq_true rfl, Nat.le_of_ble_eq_true rfl⟩ hl.1 rfl (Nat.le_of_ble_eq_true rfl) dX9_whyStep_93 ⟨Nat.zero_le _, Nat.zero_le _⟩) (fun r14 w14 H locs h hw => ?_)
                  refine lv_iload hx hb dX9_whyStep_96 (lv_at hl 0 rfl) ?_
                  refine done_i hw (my_runS (As := [.int r14, .int y1]) (rest := []) C hw (mt_X9_has l C.2.2.2.2.2.2.2 hF _ _ _ h) K_m_X9_118 K_s_X9_has K_n_X9 K_c_X9_has hy_X9_has ⟨Nat.le_of_ble_eq_true rfl, Nat.le_of_ble_eq_true rfl⟩ hl.1 rfl (Nat.le_of_ble_eq_true rfl) dX9_whyStep_98 ⟨Nat.zero_le _, Nat.zero_le _⟩) (fun r15 w15 H locs h hw => ?_)
                  refine lv_if_eq (tgt := 107) hx hb dX9_whyStep_101 (by decide) (fun c11 => ?_) (fun c11 => ?_)
                  · have h := h.1 c11
                    refine lv_iload hx hb dX9_whyStep_107 (lv_at hl 0 rfl) ?_
                    refine lv_if_le (tgt := 129) hx hb dX9_whyStep_109 (by decide) (fun c12 => ?_) (fun c12 => ?_)
                    · have h := h.1 c12
                      refine lv_aload_n hx hb dX9_whyStep_129 rfl (lv_at hl 1 rfl) ?_
                      refine lv_iload_n hx hb dX9_whyStep_130 rfl (lv_at hl 2 rfl) ?_
                      refine lv_iload_n hx hb dX9_whyStep_131 rfl (lv_at hl 3 rfl) ?_
                      refine lv_iload_n hx hb dX9_whyStep_132 rfl (lv_at hl 4 rfl) ?_
                      refine done_i hw (my_runV (As := [.int p1, .int p2, .int p3]) (rest := []) C hw 15 9 (hF 15 (by decide)) rfl rfl (mt_X9_barred l C.2.2.2.2.2.2.2 hF _ _ _ _ h) K_m_X9_220 K_i_X9_barred K_v_X9_barred K_n_X9 K_c_X9_barred hy_X9_barred ⟨Nat.le_of_ble_eq_true rfl, Nat.le_of_ble_eq_true rfl⟩ hl.1 rfl (Nat.le_of_ble_eq_true rfl) dX9_whyStep_133 ⟨Nat.zero_le _, Nat.zero_le _⟩) (fun r16 w16 H locs h hw => ?_)
                      rw [hQ]
                      exact ret_i C hr hlk hw h dX9_whyStep_136
                    · have h := h.2 c12
                      refine lv_aload_n hx hb dX9_whyStep_112 rfl (lv_at hl 1 rfl) ?_
                      refine lv_iload_n hx hb dX9_whyStep_113 rfl (lv_at hl 2 rfl) ?_
                      refine lv_iconst (v := 2) hx hb dX9_whyStep_114 (by decide) ?_
                      refine done_i hw (my_runV (As := [.int p1, .int 2]) (rest := []) C hw 15 9 (hF 15 (by decide)) rfl rfl (mt_X9_of l C.2.2.2.2.2.2.2 hF _ _ _ h) K_m_X9_173 K_i_X9_of K_v_X9_of K_n_X9 K_c_X9_of hy_X9_of ⟨Nat.le_of_ble_eq_true rfl, Nat.le_of_ble_eq_true rfl⟩ hl.1 rfl (Nat.le_of_ble_eq_true rfl) dX9_whyStep_115 ⟨Nat.zero_le _, Nat.zero_le _⟩) (fun r17 w17 H locs h hw => ?_)
                      refine lv_iload hx hb dX9_whyStep_118 (lv_at hl 0 rfl) ?_
                      refine done_i hw (my_runS (As := [.int r17, .int y1]) (rest := []) C hw (mt_X9_has l C.2.2.2.2.2.2.2 hF _ _ _ h) K_m_X9_118 K_s_X9_has K_n_X9 K_c_X9_has hy_X9_has ⟨Nat.le_of_ble_eq_true rfl, Nat.le_of_ble_eq_true rfl⟩ hl.1 rfl (Nat.le_of_ble_eq_true rfl) dX9_whyStep_120 ⟨Nat.zero_le _, Nat.zero_le _⟩) (fun r18 w18 H locs h hw => ?_)
                      refine lv_if_eq (tgt := 129) hx hb dX9_whyStep_123 (by decide) (fun c13 => ?_) (fun c13 => ?_)
                      · have h := h.1 c13
                        refine lv_aload_n hx hb dX9_whyStep_129 rfl (lv_at hl 1 rfl) ?_
                        refine lv_iload_n hx hb dX9_whyStep_130 rfl (lv_at hl 2 rfl) ?_
                        refine lv_iload_n hx hb dX9_whyStep_131 rfl (lv_at hl 3 rfl) ?_
                        refine lv_iload_n hx hb dX9_whyStep_132 rfl (lv_at hl 4 rfl) ?_
                        refine done_i hw (my_runV (As := [.int p1, .int p2, .int p3]) (rest := []) C hw 15 9 (hF 15 (by decide)) rfl rfl (mt_X9_barred l C.2.2.2.2.2.2.2 hF _ _ _ _ h) K_m_X9_220 K_i_X9_barred K_v_X9_barred K_n_X9 K_c_X9_barred hy_X9_barred ⟨Nat.le_of_ble_eq_true rfl, Nat.le_of_ble_eq_true rfl⟩ hl.1 rfl (Nat.le_of_ble_eq_true rfl) dX9_whyStep_133 ⟨Nat.zero_le _, Nat.zero_le _⟩) (fun r19 w19 H locs h hw => ?_)
                        rw [hQ]
                        exact ret_i C hr hlk hw h dX9_whyStep_136
                      · have h := h.2 c13
                        refine lv_bipush (v := 7) hx hb dX9_whyStep_126 (by decide) ?_
                        rw [hQ]
                        exact ret_i C hr hlk hw h dX9_whyStep_128
                  · have h := h.2 c11
                    refine lv_bipush (v := 6) hx hb dX9_whyStep_104 (by decide) ?_
                    rw [hQ]
                    exact ret_i C hr hlk hw h dX9_whyStep_106
              · have h := h.2 c7
                refine lv_iconst (v := 5) hx hb dX9_whyStep_83 (by decide) ?_
                rw [hQ]
                exact ret_i C hr hlk hw h dX9_whyStep_84
            · have h := h.1 c6
              refine lv_iconst (v := 4) hx hb dX9_whyStep_71 (by decide) ?_
              rw [hQ]
              exact ret_i C hr hlk hw h dX9_whyStep_72
        · have h := h.1 c4
          refine lv_iconst (v := 3) hx hb dX9_whyStep_46 (by decide) ?_
          rw [hQ]
          exact ret_i C hr hlk hw h dX9_whyStep_47
    · have h := h.1 c2
      refine lv_iconst (v := 2) hx hb dX9_whyStep_17 (by decide) ?_
      rw [hQ]
      exact ret_i C hr hlk hw h dX9_whyStep_18
  · have h := h.2 c1
    refine lv_iconst (v := 1) hx hb dX9_whyStep_7 (by decide) ?_
    rw [hQ]
    exact ret_i C hr hlk hw h dX9_whyStep_8
theorem hy_X9_whyNotStep : yX9_whyNotStep.cls ≠ "java/lang/invoke/MethodHandle" ∧ yX9_whyNotStep.cls ≠ "java/lang/invoke/VarHandle" ∧ (parseMethodDescriptor yX9_whyNotStep.desc).map (fun d => d.parameters.length) = some 3 := by decide +kernel
def wp_X9_whyNotStep (w : Wd) (p1 : Int32) (p2 : Int32) (p3 : Int32) (Post : Int32 → Wd → Prop) : Prop :=
  wp_X9_whyStep (sI w 15 0 0) p1 p2 p3 (fun r1 w1 => Post r1 w1)
set_option maxHeartbeats 4000000 in
set_option maxRecDepth 100000 in
theorem mt_X9_whyNotStep (l : Launch) {E : En} (hI : Inj E) (hF : ∀ o, (15 ≤ o ∧ o < 25) → o ∈ eL E) (w : Wd) (p1 : Int32) (p2 : Int32) (p3 : Int32) {Post : Int32 → Wd → Prop} (h : wp_X9_whyNotStep w p1 p2 p3 Post) : MI l E yX9_whyNotStep cX9_whyNotStep 4 (some .int) 6 138 [.ref (eA E 15), .int p1, .int p2, .int p3] w Post := by
  refine MG.intro hI (by decide +kernel) (Nat.le_of_ble_eq_true rfl) ?_
  intro p e s m args below meth c Q C hr hlk hQ hw ls hl
  have hx := C.1
  have hb := C.2.1
  have hl : lv_has ls 4 [(0, .ref (eA E 15)), (1, .int p1), (2, .int p2), (3, .int p3)] := hl
  unfold wp_X9_whyNotStep at h
  refine lv_aload_n hx hb dX9_whyNotStep_0 rfl (lv_at hl 0 rfl) ?_
  refine lv_iconst (v := 0) hx hb dX9_whyNotStep_1 (by decide) ?_
  refine p9_0 C hw (hF 15 (by decide)) K_f_X9_45 dX9_whyNotStep_2 (fun H locs hw => ?_)
  refine lv_aload_n hx hb dX9_whyNotStep_5 rfl (lv_at hl 0 rfl) ?_
  refine lv_iload_n hx hb dX9_whyNotStep_6 rfl (lv_at hl 1 rfl) ?_
  refine lv_iload_n hx hb dX9_whyNotStep_7 rfl (lv_at hl 2 rfl) ?_
  refine lv_iload_n hx hb dX9_whyNotStep_8 rfl (lv_at hl 3 rfl) ?_
  refine done_i hw (my_runV (As := [.int p1, .int p2, .int p3]) (rest := []) C hw 15 9 (hF 15 (by decide)) rfl rfl (mt_X9_whyStep l C.2.2.2.2.2.2.2 hF _ _ _ _ h) K_m_X9_224 K_i_X9_whyStep K_v_X9_whyStep K_n_X9 K_c_X9_whyStep hy_X9_whyStep ⟨Nat.le_of_ble_eq_true rfl, Nat.le_of_ble_eq_true rfl⟩ hl.1 rfl (Nat.le_of_ble_eq_true rfl) dX9_whyNotStep_9 ⟨Nat.zero_le _, Nat.zero_le _⟩) (fun r1 w1 H locs h hw => ?_)
  rw [hQ]
  exact ret_i C hr hlk hw h dX9_whyNotStep_12
theorem hy_X9_tokens : yX9_tokens.cls ≠ "java/lang/invoke/MethodHandle" ∧ yX9_tokens.cls ≠ "java/lang/invoke/VarHandle" ∧ (parseMethodDescriptor yX9_tokens.desc).map (fun d => d.parameters.length) = some 1 := by decide +kernel
def wp_X9_tokens (w : Wd) (p1 : Int32) (Post : Int32 → Wd → Prop) : Prop :=
  vp_in ((43 + (6 * (gA w 18 55))) + p1) 140 ∧ (Post (gA w 18 (((43 + (6 * (gA w 18 55))) + p1).toNatClampNeg)) w)
set_option maxHeartbeats 4000000 in
set_option maxRecDepth 100000 in
theorem mt_X9_tokens (l : Launch) {E : En} (hI : Inj E) (hF : ∀ o, (15 ≤ o ∧ o < 25) → o ∈ eL E) (w : Wd) (p1 : Int32) {Post : Int32 → Wd → Prop} (h : wp_X9_tokens w p1 Post) : MI l E yX9_tokens cX9_tokens 2 (some .int) 0 0 [.ref (eA E 15), .int p1] w Post := by
  refine MG.intro hI (by decide +kernel) (Nat.le_of_ble_eq_true rfl) ?_
  intro p e s m args below meth c Q C hr hlk hQ hw ls hl
  have hx := C.1
  have hb := C.2.1
  have hl : lv_has ls 2 [(0, .ref (eA E 15)), (1, .int p1)] := hl
  unfold wp_X9_tokens at h
  refine lv_aload_n hx hb dX9_tokens_0 rfl (lv_at hl 0 rfl) ?_
  refine g9_13 C hw (hF 15 (by decide)) K_f_X9_17 dX9_tokens_1 ?_
  refine lv_bipush (v := 43) hx hb dX9_tokens_4 (by decide) ?_
  refine lv_bipush (v := 6) hx hb dX9_tokens_6 (by decide) ?_
  refine lv_aload_n hx hb dX9_tokens_8 rfl (lv_at hl 0 rfl) ?_
  refine g9_13 C hw (hF 15 (by decide)) K_f_X9_17 dX9_tokens_9 ?_
  refine lv_bipush (v := 55) hx hb dX9_tokens_12 (by decide) ?_
  refine r_iald C hw 18 140 (hF 18 (by decide)) rfl (vp_lit (by decide)) dX9_tokens_14 ?_
  refine lv_imul hx hb dX9_tokens_15 ?_
  refine lv_iadd hx hb dX9_tokens_16 ?_
  refine lv_iload_n hx hb dX9_tokens_17 rfl (lv_at hl 1 rfl) ?_
  refine lv_iadd hx hb dX9_tokens_18 ?_
  obtain ⟨hi2, h⟩ := h
  refine r_iald C hw 18 140 (hF 18 (by decide)) rfl hi2 dX9_tokens_19 ?_
  rw [hQ]
  exact ret_i C hr hlk hw h dX9_tokens_20
theorem hy_X9_whyClaim : yX9_whyClaim.cls ≠ "java/lang/invoke/MethodHandle" ∧ yX9_whyClaim.cls ≠ "java/lang/invoke/VarHandle" ∧ (parseMethodDescriptor yX9_whyClaim.desc).map (fun d => d.parameters.length) = some 1 := by decide +kernel
def wp_X9_whyClaim (w : Wd) (p1 : Int32) (Post : Int32 → Wd → Prop) : Prop :=
  wp_X9_isOver w (fun r1 w1 => (r1 = 0 → (wp_X9_isLadder w1 p1 (fun r2 w2 => (r2 = 0 → (Post 2 w2)) ∧ (¬ r2 = 0 → (wp_X9_of w2 p1 5 (fun r3 w3 => (r3 = ((-1)) → (wp_X9_tokens w3 0 (fun r4 w4 => (r4 = 0 → (Post 4 w4)) ∧ (¬ r4 = 0 → (Post 0 w4))))) ∧ (¬ r3 = ((-1)) → (Post 3 w3)))))))) ∧ (¬ r1 = 0 → (Post 1 w1)))
set_option maxHeartbeats 4000000 in
set_option maxRecDepth 100000 in
theorem mt_X9_whyClaim (l : Launch) {E : En} (hI : Inj E) (hF : ∀ o, (15 ≤ o ∧ o < 25) → o ∈ eL E) (w : Wd) (p1 : Int32) {Post : Int32 → Wd → Prop} (h : wp_X9_whyClaim w p1 Post) : MI l E yX9_whyClaim cX9_whyClaim 2 (some .int) 5 114 [.ref (eA E 15), .int p1] w Post := by
  refine MG.intro hI (by decide +kernel) (Nat.le_of_ble_eq_true rfl) ?_
  intro p e s m args below meth c Q C hr hlk hQ hw ls hl
  have hx := C.1
  have hb := C.2.1
  have hl : lv_has ls 2 [(0, .ref (eA E 15)), (1, .int p1)] := hl
  unfold wp_X9_whyClaim at h
  refine lv_aload_n hx hb dX9_whyClaim_0 rfl (lv_at hl 0 rfl) ?_
  refine done_i hw (my_runV (As := []) (rest := []) C hw 15 9 (hF 15 (by decide)) rfl rfl (mt_X9_isOver l C.2.2.2.2.2.2.2 hF _ h) K_m_X9_193 K_i_X9_isOver K_v_X9_isOver K_n_X9 K_c_X9_isOver hy_X9_isOver ⟨Nat.le_of_ble_eq_true rfl, Nat.le_of_ble_eq_true rfl⟩ hl.1 rfl (Nat.le_of_ble_eq_true rfl) dX9_whyClaim_1 ⟨Nat.zero_le _, Nat.zero_le _⟩) (fun r1 w1 H locs h hw => ?_)
  refine lv_if_eq (tgt := 9) hx hb dX9_whyClaim_4 (by decide) (fun c1 => ?_) (fun c1 => ?_)
  · have h := h.1 c1
    refine lv_aload_n hx hb dX9_whyClaim_9 rfl (lv_at hl 0 rfl) ?_
    refine lv_iload_n hx hb dX9_whyClaim_10 rfl (lv_at hl 1 rfl) ?_
    refine done_i hw (my_runV (As := [.int p1]) (rest := []) C hw 15 9 (hF 15 (by decide)) rfl rfl (mt_X9_isLadder l C.2.2.2.2.2.2.2 hF _ _ h) K_m_X9_197 K_i_X9_isLadder K_v_X9_isLadder K_n_X9 K_c_X9_isLadder hy_X9_isLadder ⟨Nat.le_of_ble_eq_true rfl, Nat.le_of_ble_eq_true rfl⟩ hl.1 rfl (Nat.le_of_ble_eq_true rfl) dX9_whyClaim_11 ⟨Nat.zero_le _, Nat.zero_le _⟩) (fun r2 w2 H locs h hw => ?_)
    refine lv_if_ne (tgt := 19) hx hb dX9_whyClaim_14 (by decide) (fun c2 => ?_) (fun c2 => ?_)
    · have h := h.2 c2
      refine lv_aload_n hx hb dX9_whyClaim_19 rfl (lv_at hl 0 rfl) ?_
      refine lv_iload_n hx hb dX9_whyClaim_20 rfl (lv_at hl 1 rfl) ?_
      refine lv_iconst (v := 5) hx hb dX9_whyClaim_21 (by decide) ?_
      refine done_i hw (my_runV (As := [.int p1, .int 5]) (rest := []) C hw 15 9 (hF 15 (by decide)) rfl rfl (mt_X9_of l C.2.2.2.2.2.2.2 hF _ _ _ h) K_m_X9_173 K_i_X9_of K_v_X9_of K_n_X9 K_c_X9_of hy_X9_of ⟨Nat.le_of_ble_eq_true rfl, Nat.le_of_ble_eq_true rfl⟩ hl.1 rfl (Nat.le_of_ble_eq_true rfl) dX9_whyClaim_22 ⟨Nat.zero_le _, Nat.zero_le _⟩) (fun r3 w3 H locs h hw => ?_)
      refine lv_iconst (v := (-1)) hx hb dX9_whyClaim_25 (by decide) ?_
      refine lv_icmp_eq (tgt := 33) hx hb dX9_whyClaim_26 (by decide) (fun c3 => ?_) (fun c3 => ?_)
      · have h := h.1 c3
        refine lv_aload_n hx hb dX9_whyClaim_33 rfl (lv_at hl 0 rfl) ?_
        refine lv_iconst (v := 0) hx hb dX9_whyClaim_34 (by decide) ?_
        refine done_i hw (my_runV (As := [.int 0]) (rest := []) C hw 15 9 (hF 15 (by decide)) rfl rfl (mt_X9_tokens l C.2.2.2.2.2.2.2 hF _ _ h) K_m_X9_227 K_i_X9_tokens K_v_X9_tokens K_n_X9 K_c_X9_tokens hy_X9_tokens ⟨Nat.le_of_ble_eq_true rfl, Nat.le_of_ble_eq_true rfl⟩ hl.1 rfl (Nat.le_of_ble_eq_true rfl) dX9_whyClaim_35 ⟨Nat.zero_le _, Nat.zero_le _⟩) (fun r4 w4 H locs h hw => ?_)
        refine lv_if_ne (tgt := 45) hx hb dX9_whyClaim_38 (by decide) (fun c4 => ?_) (fun c4 => ?_)
        · have h := h.2 c4
          refine lv_iconst (v := 0) hx hb dX9_whyClaim_45 (by decide) ?_
          rw [hQ]
          exact ret_i C hr hlk hw h dX9_whyClaim_46
        · have h := h.1 c4
          refine lv_iconst (v := 4) hx hb dX9_whyClaim_41 (by decide) ?_
          refine lv_goto (tgt := 46) hx hb dX9_whyClaim_42 (by decide) ?_
          rw [hQ]
          exact ret_i C hr hlk hw h dX9_whyClaim_46
      · have h := h.2 c3
        refine lv_iconst (v := 3) hx hb dX9_whyClaim_29 (by decide) ?_
        refine lv_goto (tgt := 46) hx hb dX9_whyClaim_30 (by decide) ?_
        rw [hQ]
        exact ret_i C hr hlk hw h dX9_whyClaim_46
    · have h := h.1 c2
      refine lv_iconst (v := 2) hx hb dX9_whyClaim_17 (by decide) ?_
      rw [hQ]
      exact ret_i C hr hlk hw h dX9_whyClaim_18
  · have h := h.2 c1
    refine lv_iconst (v := 1) hx hb dX9_whyClaim_7 (by decide) ?_
    rw [hQ]
    exact ret_i C hr hlk hw h dX9_whyClaim_8
theorem hy_X9_whyNotClaim : yX9_whyNotClaim.cls ≠ "java/lang/invoke/MethodHandle" ∧ yX9_whyNotClaim.cls ≠ "java/lang/invoke/VarHandle" ∧ (parseMethodDescriptor yX9_whyNotClaim.desc).map (fun d => d.parameters.length) = some 1 := by decide +kernel
def wp_X9_whyNotClaim (w : Wd) (p1 : Int32) (Post : Int32 → Wd → Prop) : Prop :=
  wp_X9_whyClaim (sI w 15 0 0) p1 (fun r1 w1 => Post r1 w1)
set_option maxHeartbeats 4000000 in
set_option maxRecDepth 100000 in
theorem mt_X9_whyNotClaim (l : Launch) {E : En} (hI : Inj E) (hF : ∀ o, (15 ≤ o ∧ o < 25) → o ∈ eL E) (w : Wd) (p1 : Int32) {Post : Int32 → Wd → Prop} (h : wp_X9_whyNotClaim w p1 Post) : MI l E yX9_whyNotClaim cX9_whyNotClaim 2 (some .int) 6 135 [.ref (eA E 15), .int p1] w Post := by
  refine MG.intro hI (by decide +kernel) (Nat.le_of_ble_eq_true rfl) ?_
  intro p e s m args below meth c Q C hr hlk hQ hw ls hl
  have hx := C.1
  have hb := C.2.1
  have hl : lv_has ls 2 [(0, .ref (eA E 15)), (1, .int p1)] := hl
  unfold wp_X9_whyNotClaim at h
  refine lv_aload_n hx hb dX9_whyNotClaim_0 rfl (lv_at hl 0 rfl) ?_
  refine lv_iconst (v := 0) hx hb dX9_whyNotClaim_1 (by decide) ?_
  refine p9_0 C hw (hF 15 (by decide)) K_f_X9_45 dX9_whyNotClaim_2 (fun H locs hw => ?_)
  refine lv_aload_n hx hb dX9_whyNotClaim_5 rfl (lv_at hl 0 rfl) ?_
  refine lv_iload_n hx hb dX9_whyNotClaim_6 rfl (lv_at hl 1 rfl) ?_
  refine done_i hw (my_runV (As := [.int p1]) (rest := []) C hw 15 9 (hF 15 (by decide)) rfl rfl (mt_X9_whyClaim l C.2.2.2.2.2.2.2 hF _ _ h) K_m_X9_229 K_i_X9_whyClaim K_v_X9_whyClaim K_n_X9 K_c_X9_whyClaim hy_X9_whyClaim ⟨Nat.le_of_ble_eq_true rfl, Nat.le_of_ble_eq_true rfl⟩ hl.1 rfl (Nat.le_of_ble_eq_true rfl) dX9_whyNotClaim_7 ⟨Nat.zero_le _, Nat.zero_le _⟩) (fun r1 w1 H locs h hw => ?_)
  rw [hQ]
  exact ret_i C hr hlk hw h dX9_whyNotClaim_10
theorem hy_X9_whyLock : yX9_whyLock.cls ≠ "java/lang/invoke/MethodHandle" ∧ yX9_whyLock.cls ≠ "java/lang/invoke/VarHandle" ∧ (parseMethodDescriptor yX9_whyLock.desc).map (fun d => d.parameters.length) = some 2 := by decide +kernel
def wp_X9_whyLock (w : Wd) (p1 : Int32) (p2 : Int32) (Post : Int32 → Wd → Prop) : Prop :=
  wp_X9_isOver w (fun r1 w1 => (r1 = 0 → (wp_X9_isLadder w1 p1 (fun r2 w2 => (r2 = 0 → (Post 2 w2)) ∧ (¬ r2 = 0 → (wp_X9_of w2 p1 0 (fun r3 w3 => wp_X9_within w3 p2 1 r3 (fun r4 w4 => (r4 = 0 → (Post 3 w4)) ∧ (¬ r4 = 0 → (wp_X9_of w4 p1 3 (fun r5 w5 => wp_X9_has w5 r5 p2 (fun r6 w6 => (r6 = 0 → (wp_X9_of w6 p1 2 (fun r7 w7 => wp_X9_has w7 r7 p2 (fun r8 w8 => (r8 = 0 → (wp_X9_tokens w8 1 (fun r9 w9 => (r9 = 0 → (Post 6 w9)) ∧ (¬ r9 = 0 → (Post 0 w9))))) ∧ (¬ r8 = 0 → (Post 5 w8)))))) ∧ (¬ r6 = 0 → (Post 4 w6))))))))))))) ∧ (¬ r1 = 0 → (Post 1 w1)))
set_option maxHeartbeats 4000000 in
set_option maxRecDepth 100000 in
theorem mt_X9_whyLock (l : Launch) {E : En} (hI : Inj E) (hF : ∀ o, (15 ≤ o ∧ o < 25) → o ∈ eL E) (w : Wd) (p1 : Int32) (p2 : Int32) {Post : Int32 → Wd → Prop} (h : wp_X9_whyLock w p1 p2 Post) : MI l E yX9_whyLock cX9_whyLock 3 (some .int) 5 114 [.ref (eA E 15), .int p1, .int p2] w Post := by
  refine MG.intro hI (by decide +kernel) (Nat.le_of_ble_eq_true rfl) ?_
  intro p e s m args below meth c Q C hr hlk hQ hw ls hl
  have hx := C.1
  have hb := C.2.1
  have hl : lv_has ls 3 [(0, .ref (eA E 15)), (1, .int p1), (2, .int p2)] := hl
  unfold wp_X9_whyLock at h
  refine lv_aload_n hx hb dX9_whyLock_0 rfl (lv_at hl 0 rfl) ?_
  refine done_i hw (my_runV (As := []) (rest := []) C hw 15 9 (hF 15 (by decide)) rfl rfl (mt_X9_isOver l C.2.2.2.2.2.2.2 hF _ h) K_m_X9_193 K_i_X9_isOver K_v_X9_isOver K_n_X9 K_c_X9_isOver hy_X9_isOver ⟨Nat.le_of_ble_eq_true rfl, Nat.le_of_ble_eq_true rfl⟩ hl.1 rfl (Nat.le_of_ble_eq_true rfl) dX9_whyLock_1 ⟨Nat.zero_le _, Nat.zero_le _⟩) (fun r1 w1 H locs h hw => ?_)
  refine lv_if_eq (tgt := 9) hx hb dX9_whyLock_4 (by decide) (fun c1 => ?_) (fun c1 => ?_)
  · have h := h.1 c1
    refine lv_aload_n hx hb dX9_whyLock_9 rfl (lv_at hl 0 rfl) ?_
    refine lv_iload_n hx hb dX9_whyLock_10 rfl (lv_at hl 1 rfl) ?_
    refine done_i hw (my_runV (As := [.int p1]) (rest := []) C hw 15 9 (hF 15 (by decide)) rfl rfl (mt_X9_isLadder l C.2.2.2.2.2.2.2 hF _ _ h) K_m_X9_197 K_i_X9_isLadder K_v_X9_isLadder K_n_X9 K_c_X9_isLadder hy_X9_isLadder ⟨Nat.le_of_ble_eq_true rfl, Nat.le_of_ble_eq_true rfl⟩ hl.1 rfl (Nat.le_of_ble_eq_true rfl) dX9_whyLock_11 ⟨Nat.zero_le _, Nat.zero_le _⟩) (fun r2 w2 H locs h hw => ?_)
    refine lv_if_ne (tgt := 19) hx hb dX9_whyLock_14 (by decide) (fun c2 => ?_) (fun c2 => ?_)
    · have h := h.2 c2
      refine lv_iload_n hx hb dX9_whyLock_19 rfl (lv_at hl 2 rfl) ?_
      refine lv_iconst (v := 1) hx hb dX9_whyLock_20 (by decide) ?_
      refine lv_aload_n hx hb dX9_whyLock_21 rfl (lv_at hl 0 rfl) ?_
      refine lv_iload_n hx hb dX9_whyLock_22 rfl (lv_at hl 1 rfl) ?_
      refine lv_iconst (v := 0) hx hb dX9_whyLock_23 (by decide) ?_
      refine done_i hw (my_runV (As := [.int p1, .int 0]) (rest := [.int 1, .int p2]) C hw 15 9 (hF 15 (by decide)) rfl rfl (mt_X9_of l C.2.2.2.2.2.2.2 hF _ _ _ h) K_m_X9_173 K_i_X9_of K_v_X9_of K_n_X9 K_c_X9_of hy_X9_of ⟨Nat.le_of_ble_eq_true rfl, Nat.le_of_ble_eq_true rfl⟩ hl.1 rfl (Nat.le_of_ble_eq_true rfl) dX9_whyLock_24 ⟨Nat.zero_le _, Nat.zero_le _⟩) (fun r3 w3 H locs h hw => ?_)
      refine done_i hw (my_runS (As := [.int p2, .int 1, .int r3]) (rest := []) C hw (mt_X9_within l C.2.2.2.2.2.2.2 hF _ _ _ _ h) K_m_X9_72 K_s_X9_within K_n_X9 K_c_X9_within hy_X9_within ⟨Nat.le_of_ble_eq_true rfl, Nat.le_of_ble_eq_true rfl⟩ hl.1 rfl (Nat.le_of_ble_eq_true rfl) dX9_whyLock_27 ⟨Nat.zero_le _, Nat.zero_le _⟩) (fun r4 w4 H locs h hw => ?_)
      refine lv_if_ne (tgt := 35) hx hb dX9_whyLock_30 (by decide) (fun c3 => ?_) (fun c3 => ?_)
      · have h := h.2 c3
        refine lv_aload_n hx hb dX9_whyLock_35 rfl (lv_at hl 0 rfl) ?_
        refine lv_iload_n hx hb dX9_whyLock_36 rfl (lv_at hl 1 rfl) ?_
        refine lv_iconst (v := 3) hx hb dX9_whyLock_37 (by decide) ?_
        refine done_i hw (my_runV (As := [.int p1, .int 3]) (rest := []) C hw 15 9 (hF 15 (by decide)) rfl rfl (mt_X9_of l C.2.2.2.2.2.2.2 hF _ _ _ h) K_m_X9_173 K_i_X9_of K_v_X9_of K_n_X9 K_c_X9_of hy_X9_of ⟨Nat.le_of_ble_eq_true rfl, Nat.le_of_ble_eq_true rfl⟩ hl.1 rfl (Nat.le_of_ble_eq_true rfl) dX9_whyLock_38 ⟨Nat.zero_le _, Nat.zero_le _⟩) (fun r5 w5 H locs h hw => ?_)
        refine lv_iload_n hx hb dX9_whyLock_41 rfl (lv_at hl 2 rfl) ?_
        refine done_i hw (my_runS (As := [.int r5, .int p2]) (rest := []) C hw (mt_X9_has l C.2.2.2.2.2.2.2 hF _ _ _ h) K_m_X9_118 K_s_X9_has K_n_X9 K_c_X9_has hy_X9_has ⟨Nat.le_of_ble_eq_true rfl, Nat.le_of_ble_eq_true rfl⟩ hl.1 rfl (Nat.le_of_ble_eq_true rfl) dX9_whyLock_42 ⟨Nat.zero_le _, Nat.zero_le _⟩) (fun r6 w6 H locs h hw => ?_)
        refine lv_if_eq (tgt := 50) hx hb dX9_whyLock_45 (by decide) (fun c4 => ?_) (fun c4 => ?_)
        · have h := h.1 c4
          refine lv_aload_n hx hb dX9_whyLock_50 rfl (lv_at hl 0 rfl) ?_
          refine lv_iload_n hx hb dX9_whyLock_51 rfl (lv_at hl 1 rfl) ?_
          refine lv_iconst (v := 2) hx hb dX9_whyLock_52 (by decide) ?_
          refine done_i hw (my_runV (As := [.int p1, .int 2]) (rest := []) C hw 15 9 (hF 15 (by decide)) rfl rfl (mt_X9_of l C.2.2.2.2.2.2.2 hF _ _ _ h) K_m_X9_173 K_i_X9_of K_v_X9_of K_n_X9 K_c_X9_of hy_X9_of ⟨Nat.le_of_ble_eq_true rfl, Nat.le_of_ble_eq_true rfl⟩ hl.1 rfl (Nat.le_of_ble_eq_true rfl) dX9_whyLock_53 ⟨Nat.zero_le _, Nat.zero_le _⟩) (fun r7 w7 H locs h hw => ?_)
          refine lv_iload_n hx hb dX9_whyLock_56 rfl (lv_at hl 2 rfl) ?_
          refine done_i hw (my_runS (As := [.int r7, .int p2]) (rest := []) C hw (mt_X9_has l C.2.2.2.2.2.2.2 hF _ _ _ h) K_m_X9_118 K_s_X9_has K_n_X9 K_c_X9_has hy_X9_has ⟨Nat.le_of_ble_eq_true rfl, Nat.le_of_ble_eq_true rfl⟩ hl.1 rfl (Nat.le_of_ble_eq_true rfl) dX9_whyLock_57 ⟨Nat.zero_le _, Nat.zero_le _⟩) (fun r8 w8 H locs h hw => ?_)
          refine lv_if_eq (tgt := 67) hx hb dX9_whyLock_60 (by decide) (fun c5 => ?_) (fun c5 => ?_)
          · have h := h.1 c5
            refine lv_aload_n hx hb dX9_whyLock_67 rfl (lv_at hl 0 rfl) ?_
            refine lv_iconst (v := 1) hx hb dX9_whyLock_68 (by decide) ?_
            refine done_i hw (my_runV (As := [.int 1]) (rest := []) C hw 15 9 (hF 15 (by decide)) rfl rfl (mt_X9_tokens l C.2.2.2.2.2.2.2 hF _ _ h) K_m_X9_227 K_i_X9_tokens K_v_X9_tokens K_n_X9 K_c_X9_tokens hy_X9_tokens ⟨Nat.le_of_ble_eq_true rfl, Nat.le_of_ble_eq_true rfl⟩ hl.1 rfl (Nat.le_of_ble_eq_true rfl) dX9_whyLock_69 ⟨Nat.zero_le _, Nat.zero_le _⟩) (fun r9 w9 H locs h hw => ?_)
            refine lv_if_ne (tgt := 80) hx hb dX9_whyLock_72 (by decide) (fun c6 => ?_) (fun c6 => ?_)
            · have h := h.2 c6
              refine lv_iconst (v := 0) hx hb dX9_whyLock_80 (by decide) ?_
              rw [hQ]
              exact ret_i C hr hlk hw h dX9_whyLock_81
            · have h := h.1 c6
              refine lv_bipush (v := 6) hx hb dX9_whyLock_75 (by decide) ?_
              refine lv_goto (tgt := 81) hx hb dX9_whyLock_77 (by decide) ?_
              rw [hQ]
              exact ret_i C hr hlk hw h dX9_whyLock_81
          · have h := h.2 c5
            refine lv_iconst (v := 5) hx hb dX9_whyLock_63 (by decide) ?_
            refine lv_goto (tgt := 81) hx hb dX9_whyLock_64 (by decide) ?_
            rw [hQ]
            exact ret_i C hr hlk hw h dX9_whyLock_81
        · have h := h.2 c4
          refine lv_iconst (v := 4) hx hb dX9_whyLock_48 (by decide) ?_
          rw [hQ]
          exact ret_i C hr hlk hw h dX9_whyLock_49
      · have h := h.1 c3
        refine lv_iconst (v := 3) hx hb dX9_whyLock_33 (by decide) ?_
        rw [hQ]
        exact ret_i C hr hlk hw h dX9_whyLock_34
    · have h := h.1 c2
      refine lv_iconst (v := 2) hx hb dX9_whyLock_17 (by decide) ?_
      rw [hQ]
      exact ret_i C hr hlk hw h dX9_whyLock_18
  · have h := h.2 c1
    refine lv_iconst (v := 1) hx hb dX9_whyLock_7 (by decide) ?_
    rw [hQ]
    exact ret_i C hr hlk hw h dX9_whyLock_8
theorem hy_X9_whyNotLock : yX9_whyNotLock.cls ≠ "java/lang/invoke/MethodHandle" ∧ yX9_whyNotLock.cls ≠ "java/lang/invoke/VarHandle" ∧ (parseMethodDescriptor yX9_whyNotLock.desc).map (fun d => d.parameters.length) = some 2 := by decide +kernel
def wp_X9_whyNotLock (w : Wd) (p1 : Int32) (p2 : Int32) (Post : Int32 → Wd → Prop) : Prop :=
  wp_X9_whyLock (sI w 15 0 0) p1 p2 (fun r1 w1 => Post r1 w1)
set_option maxHeartbeats 4000000 in
set_option maxRecDepth 100000 in
theorem mt_X9_whyNotLock (l : Launch) {E : En} (hI : Inj E) (hF : ∀ o, (15 ≤ o ∧ o < 25) → o ∈ eL E) (w : Wd) (p1 : Int32) (p2 : Int32) {Post : Int32 → Wd → Prop} (h : wp_X9_whyNotLock w p1 p2 Post) : MI l E yX9_whyNotLock cX9_whyNotLock 3 (some .int) 6 136 [.ref (eA E 15), .int p1, .int p2] w Post := by
  refine MG.intro hI (by decide +kernel) (Nat.le_of_ble_eq_true rfl) ?_
  intro p e s m args below meth c Q C hr hlk hQ hw ls hl
  have hx := C.1
  have hb := C.2.1
  have hl : lv_has ls 3 [(0, .ref (eA E 15)), (1, .int p1), (2, .int p2)] := hl
  unfold wp_X9_whyNotLock at h
  refine lv_aload_n hx hb dX9_whyNotLock_0 rfl (lv_at hl 0 rfl) ?_
  refine lv_iconst (v := 0) hx hb dX9_whyNotLock_1 (by decide) ?_
  refine p9_0 C hw (hF 15 (by decide)) K_f_X9_45 dX9_whyNotLock_2 (fun H locs hw => ?_)
  refine lv_aload_n hx hb dX9_whyNotLock_5 rfl (lv_at hl 0 rfl) ?_
  refine lv_iload_n hx hb dX9_whyNotLock_6 rfl (lv_at hl 1 rfl) ?_
  refine lv_iload_n hx hb dX9_whyNotLock_7 rfl (lv_at hl 2 rfl) ?_
  refine done_i hw (my_runV (As := [.int p1, .int p2]) (rest := []) C hw 15 9 (hF 15 (by decide)) rfl rfl (mt_X9_whyLock l C.2.2.2.2.2.2.2 hF _ _ _ h) K_m_X9_232 K_i_X9_whyLock K_v_X9_whyLock K_n_X9 K_c_X9_whyLock hy_X9_whyLock ⟨Nat.le_of_ble_eq_true rfl, Nat.le_of_ble_eq_true rfl⟩ hl.1 rfl (Nat.le_of_ble_eq_true rfl) dX9_whyNotLock_8 ⟨Nat.zero_le _, Nat.zero_le _⟩) (fun r1 w1 H locs h hw => ?_)
  rw [hQ]
  exact ret_i C hr hlk hw h dX9_whyNotLock_11
theorem hy_X9_latest : yX9_latest.cls ≠ "java/lang/invoke/MethodHandle" ∧ yX9_latest.cls ≠ "java/lang/invoke/VarHandle" ∧ (parseMethodDescriptor yX9_latest.desc).map (fun d => d.parameters.length) = some 1 := by decide +kernel
def wp_X9_latest (w : Wd) (p1 : Int32) (Post : Int32 → Wd → Prop) : Prop :=
  vp_in ((60 + (5 * (((gA w 18 56) - 1) - ((gA w 18 56) - 1) / 16 * 16))) + p1) 140 ∧ (Post (gA w 18 (((60 + (5 * (((gA w 18 56) - 1) - ((gA w 18 56) - 1) / 16 * 16))) + p1).toNatClampNeg)) w)
set_option maxHeartbeats 4000000 in
set_option maxRecDepth 100000 in
theorem mt_X9_latest (l : Launch) {E : En} (hI : Inj E) (hF : ∀ o, (15 ≤ o ∧ o < 25) → o ∈ eL E) (w : Wd) (p1 : Int32) {Post : Int32 → Wd → Prop} (h : wp_X9_latest w p1 Post) : MI l E yX9_latest cX9_latest 2 (some .int) 0 0 [.ref (eA E 15), .int p1] w Post := by
  refine MG.intro hI (by decide +kernel) (Nat.le_of_ble_eq_true rfl) ?_
  intro p e s m args below meth c Q C hr hlk hQ hw ls hl
  have hx := C.1
  have hb := C.2.1
  have hl : lv_has ls 2 [(0, .ref (eA E 15)), (1, .int p1)] := hl
  unfold wp_X9_latest at h
  refine lv_aload_n hx hb dX9_latest_0 rfl (lv_at hl 0 rfl) ?_
  refine g9_13 C hw (hF 15 (by decide)) K_f_X9_17 dX9_latest_1 ?_
  refine lv_bipush (v := 60) hx hb dX9_latest_4 (by decide) ?_
  refine lv_iconst (v := 5) hx hb dX9_latest_6 (by decide) ?_
  refine lv_aload_n hx hb dX9_latest_7 rfl (lv_at hl 0 rfl) ?_
  refine g9_13 C hw (hF 15 (by decide)) K_f_X9_17 dX9_latest_8 ?_
  refine lv_bipush (v := 56) hx hb dX9_latest_11 (by decide) ?_
  refine r_iald C hw 18 140 (hF 18 (by decide)) rfl (vp_lit (by decide)) dX9_latest_13 ?_
  refine lv_iconst (v := 1) hx hb dX9_latest_14 (by decide) ?_
  refine lv_isub hx hb dX9_latest_15 ?_
  refine lv_bipush (v := 16) hx hb dX9_latest_16 (by decide) ?_
  refine lv_irem hx hb dX9_latest_18 (by decide) ?_
  refine lv_imul hx hb dX9_latest_19 ?_
  refine lv_iadd hx hb dX9_latest_20 ?_
  refine lv_iload_n hx hb dX9_latest_21 rfl (lv_at hl 1 rfl) ?_
  refine lv_iadd hx hb dX9_latest_22 ?_
  obtain ⟨hi2, h⟩ := h
  refine r_iald C hw 18 140 (hF 18 (by decide)) rfl hi2 dX9_latest_23 ?_
  rw [hQ]
  exact ret_i C hr hlk hw h dX9_latest_24
theorem hy_X9_whyBack : yX9_whyBack.cls ≠ "java/lang/invoke/MethodHandle" ∧ yX9_whyBack.cls ≠ "java/lang/invoke/VarHandle" ∧ (parseMethodDescriptor yX9_whyBack.desc).map (fun d => d.parameters.length) = some 0 := by decide +kernel
def wp_X9_whyBack (w : Wd) (Post : Int32 → Wd → Prop) : Prop :=
  ((gA w 18 56) = 0 → (Post 1 w)) ∧ (¬ (gA w 18 56) = 0 → (wp_X9_latest w 0 (fun r1 w1 => (r1 = 0 → (wp_X9_tokens w1 2 (fun r2 w2 => (r2 = 0 → (Post 2 w2)) ∧ (¬ r2 = 0 → (Post 0 w2))))) ∧ (¬ r1 = 0 → (Post 1 w1)))))
set_option maxHeartbeats 4000000 in
set_option maxRecDepth 100000 in
theorem mt_X9_whyBack (l : Launch) {E : En} (hI : Inj E) (hF : ∀ o, (15 ≤ o ∧ o < 25) → o ∈ eL E) (w : Wd) {Post : Int32 → Wd → Prop} (h : wp_X9_whyBack w Post) : MI l E yX9_whyBack cX9_whyBack 1 (some .int) 1 21 [.ref (eA E 15)] w Post := by
  refine MG.intro hI (by decide +kernel) (Nat.le_of_ble_eq_true rfl) ?_
  intro p e s m args below meth c Q C hr hlk hQ hw ls hl
  have hx := C.1
  have hb := C.2.1
  have hl : lv_has ls 1 [(0, .ref (eA E 15))] := hl
  unfold wp_X9_whyBack at h
  refine lv_aload_n hx hb dX9_whyBack_0 rfl (lv_at hl 0 rfl) ?_
  refine g9_13 C hw (hF 15 (by decide)) K_f_X9_17 dX9_whyBack_1 ?_
  refine lv_bipush (v := 56) hx hb dX9_whyBack_4 (by decide) ?_
  refine r_iald C hw 18 140 (hF 18 (by decide)) rfl (vp_lit (by decide)) dX9_whyBack_6 ?_
  refine lv_if_eq (tgt := 18) hx hb dX9_whyBack_7 (by decide) (fun c1 => ?_) (fun c1 => ?_)
  · have h := h.1 c1
    refine lv_iconst (v := 1) hx hb dX9_whyBack_18 (by decide) ?_
    rw [hQ]
    exact ret_i C hr hlk hw h dX9_whyBack_19
  · have h := h.2 c1
    refine lv_aload_n hx hb dX9_whyBack_10 rfl (lv_at hl 0 rfl) ?_
    refine lv_iconst (v := 0) hx hb dX9_whyBack_11 (by decide) ?_
    refine done_i hw (my_runV (As := [.int 0]) (rest := []) C hw 15 9 (hF 15 (by decide)) rfl rfl (mt_X9_latest l C.2.2.2.2.2.2.2 hF _ _ h) K_m_X9_235 K_i_X9_latest K_v_X9_latest K_n_X9 K_c_X9_latest hy_X9_latest ⟨Nat.le_of_ble_eq_true rfl, Nat.le_of_ble_eq_true rfl⟩ hl.1 rfl (Nat.le_of_ble_eq_true rfl) dX9_whyBack_12 ⟨Nat.zero_le _, Nat.zero_le _⟩) (fun r1 w1 H locs h hw => ?_)
    refine lv_if_eq (tgt := 20) hx hb dX9_whyBack_15 (by decide) (fun c2 => ?_) (fun c2 => ?_)
    · have h := h.1 c2
      refine lv_aload_n hx hb dX9_whyBack_20 rfl (lv_at hl 0 rfl) ?_
      refine lv_iconst (v := 2) hx hb dX9_whyBack_21 (by decide) ?_
      refine done_i hw (my_runV (As := [.int 2]) (rest := []) C hw 15 9 (hF 15 (by decide)) rfl rfl (mt_X9_tokens l C.2.2.2.2.2.2.2 hF _ _ h) K_m_X9_227 K_i_X9_tokens K_v_X9_tokens K_n_X9 K_c_X9_tokens hy_X9_tokens ⟨Nat.le_of_ble_eq_true rfl, Nat.le_of_ble_eq_true rfl⟩ hl.1 rfl (Nat.le_of_ble_eq_true rfl) dX9_whyBack_22 ⟨Nat.zero_le _, Nat.zero_le _⟩) (fun r2 w2 H locs h hw => ?_)
      refine lv_if_ne (tgt := 32) hx hb dX9_whyBack_25 (by decide) (fun c3 => ?_) (fun c3 => ?_)
      · have h := h.2 c3
        refine lv_iconst (v := 0) hx hb dX9_whyBack_32 (by decide) ?_
        rw [hQ]
        exact ret_i C hr hlk hw h dX9_whyBack_33
      · have h := h.1 c3
        refine lv_iconst (v := 2) hx hb dX9_whyBack_28 (by decide) ?_
        refine lv_goto (tgt := 33) hx hb dX9_whyBack_29 (by decide) ?_
        rw [hQ]
        exact ret_i C hr hlk hw h dX9_whyBack_33
    · have h := h.2 c2
      refine lv_iconst (v := 1) hx hb dX9_whyBack_18 (by decide) ?_
      rw [hQ]
      exact ret_i C hr hlk hw h dX9_whyBack_19
theorem hy_X9_whyNotBack : yX9_whyNotBack.cls ≠ "java/lang/invoke/MethodHandle" ∧ yX9_whyNotBack.cls ≠ "java/lang/invoke/VarHandle" ∧ (parseMethodDescriptor yX9_whyNotBack.desc).map (fun d => d.parameters.length) = some 0 := by decide +kernel
def wp_X9_whyNotBack (w : Wd) (Post : Int32 → Wd → Prop) : Prop :=
  wp_X9_whyBack (sI w 15 0 0) (fun r1 w1 => Post r1 w1)
set_option maxHeartbeats 4000000 in
set_option maxRecDepth 100000 in
theorem mt_X9_whyNotBack (l : Launch) {E : En} (hI : Inj E) (hF : ∀ o, (15 ≤ o ∧ o < 25) → o ∈ eL E) (w : Wd) {Post : Int32 → Wd → Prop} (h : wp_X9_whyNotBack w Post) : MI l E yX9_whyNotBack cX9_whyNotBack 1 (some .int) 2 41 [.ref (eA E 15)] w Post := by
  refine MG.intro hI (by decide +kernel) (Nat.le_of_ble_eq_true rfl) ?_
  intro p e s m args below meth c Q C hr hlk hQ hw ls hl
  have hx := C.1
  have hb := C.2.1
  have hl : lv_has ls 1 [(0, .ref (eA E 15))] := hl
  unfold wp_X9_whyNotBack at h
  refine lv_aload_n hx hb dX9_whyNotBack_0 rfl (lv_at hl 0 rfl) ?_
  refine lv_iconst (v := 0) hx hb dX9_whyNotBack_1 (by decide) ?_
  refine p9_0 C hw (hF 15 (by decide)) K_f_X9_45 dX9_whyNotBack_2 (fun H locs hw => ?_)
  refine lv_aload_n hx hb dX9_whyNotBack_5 rfl (lv_at hl 0 rfl) ?_
  refine done_i hw (my_runV (As := []) (rest := []) C hw 15 9 (hF 15 (by decide)) rfl rfl (mt_X9_whyBack l C.2.2.2.2.2.2.2 hF _ h) K_m_X9_238 K_i_X9_whyBack K_v_X9_whyBack K_n_X9 K_c_X9_whyBack hy_X9_whyBack ⟨Nat.le_of_ble_eq_true rfl, Nat.le_of_ble_eq_true rfl⟩ hl.1 rfl (Nat.le_of_ble_eq_true rfl) dX9_whyNotBack_6 ⟨Nat.zero_le _, Nat.zero_le _⟩) (fun r1 w1 H locs h hw => ?_)
  rw [hQ]
  exact ret_i C hr hlk hw h dX9_whyNotBack_9
theorem hy_X9_isAllowed : yX9_isAllowed.cls ≠ "java/lang/invoke/MethodHandle" ∧ yX9_isAllowed.cls ≠ "java/lang/invoke/VarHandle" ∧ (parseMethodDescriptor yX9_isAllowed.desc).map (fun d => d.parameters.length) = some 3 := by decide +kernel
def wp_X9_isAllowed (w : Wd) (p1 : Int32) (p2 : Int32) (p3 : Int32) (Post : Int32 → Wd → Prop) : Prop :=
  wp_X9_of w p1 2 (fun r1 w1 => wp_X9_has w1 r1 p2 (fun r2 w2 => (r2 = 0 → (Post 0 w2)) ∧ (¬ r2 = 0 → (wp_X9_of w2 p1 4 (fun r3 w3 => wp_X9_has w3 r3 p3 (fun r4 w4 => (r4 = 0 → (Post 0 w4)) ∧ (¬ r4 = 0 → (wp_X9_of w4 p1 2 (fun r5 w5 => wp_X9_behind w5 p1 r5 p2 p3 (fun r6 w6 => (r6 = ((-1)) → (Post 0 w6)) ∧ (¬ r6 = ((-1)) → (wp_X9_barred w6 p1 p2 p3 (fun r7 w7 => (r7 = 0 → (Post 1 w7)) ∧ (¬ r7 = 0 → (Post 0 w7)))))))))))))))
set_option maxHeartbeats 4000000 in
set_option maxRecDepth 100000 in
theorem mt_X9_isAllowed (l : Launch) {E : En} (hI : Inj E) (hF : ∀ o, (15 ≤ o ∧ o < 25) → o ∈ eL E) (w : Wd) (p1 : Int32) (p2 : Int32) (p3 : Int32) {Post : Int32 → Wd → Prop} (h : wp_X9_isAllowed w p1 p2 p3 Post) : MI l E yX9_isAllowed cX9_isAllowed 4 (some .boolean) 3 68 [.ref (eA E 15), .int p1, .int p2, .int p3] w Post := by
  refine MG.intro hI (by decide +kernel) (Nat.le_of_ble_eq_true rfl) ?_
  intro p e s m args below meth c Q C hr hlk hQ hw ls hl
  have hx := C.1
  have hb := C.2.1
  have hl : lv_has ls 4 [(0, .ref (eA E 15)), (1, .int p1), (2, .int p2), (3, .int p3)] := hl
  unfold wp_X9_isAllowed at h
  refine lv_aload_n hx hb dX9_isAllowed_0 rfl (lv_at hl 0 rfl) ?_
  refine lv_iload_n hx hb dX9_isAllowed_1 rfl (lv_at hl 1 rfl) ?_
  refine lv_iconst (v := 2) hx hb dX9_isAllowed_2 (by decide) ?_
  refine done_i hw (my_runV (As := [.int p1, .int 2]) (rest := []) C hw 15 9 (hF 15 (by decide)) rfl rfl (mt_X9_of l C.2.2.2.2.2.2.2 hF _ _ _ h) K_m_X9_173 K_i_X9_of K_v_X9_of K_n_X9 K_c_X9_of hy_X9_of ⟨Nat.le_of_ble_eq_true rfl, Nat.le_of_ble_eq_true rfl⟩ hl.1 rfl (Nat.le_of_ble_eq_true rfl) dX9_isAllowed_3 ⟨Nat.zero_le _, Nat.zero_le _⟩) (fun r1 w1 H locs h hw => ?_)
  refine lv_iload_n hx hb dX9_isAllowed_6 rfl (lv_at hl 2 rfl) ?_
  refine done_i hw (my_runS (As := [.int r1, .int p2]) (rest := []) C hw (mt_X9_has l C.2.2.2.2.2.2.2 hF _ _ _ h) K_m_X9_118 K_s_X9_has K_n_X9 K_c_X9_has hy_X9_has ⟨Nat.le_of_ble_eq_true rfl, Nat.le_of_ble_eq_true rfl⟩ hl.1 rfl (Nat.le_of_ble_eq_true rfl) dX9_isAllowed_7 ⟨Nat.zero_le _, Nat.zero_le _⟩) (fun r2 w2 H locs h hw => ?_)
  refine lv_if_eq (tgt := 57) hx hb dX9_isAllowed_10 (by decide) (fun c1 => ?_) (fun c1 => ?_)
  · have h := h.1 c1
    refine lv_iconst (v := 0) hx hb dX9_isAllowed_57 (by decide) ?_
    rw [hQ]
    exact ret_z C hr hlk hw h (by decide) dX9_isAllowed_58
  · have h := h.2 c1
    refine lv_aload_n hx hb dX9_isAllowed_13 rfl (lv_at hl 0 rfl) ?_
    refine lv_iload_n hx hb dX9_isAllowed_14 rfl (lv_at hl 1 rfl) ?_
    refine lv_iconst (v := 4) hx hb dX9_isAllowed_15 (by decide) ?_
    refine done_i hw (my_runV (As := [.int p1, .int 4]) (rest := []) C hw 15 9 (hF 15 (by decide)) rfl rfl (mt_X9_of l C.2.2.2.2.2.2.2 hF _ _ _ h) K_m_X9_173 K_i_X9_of K_v_X9_of K_n_X9 K_c_X9_of hy_X9_of ⟨Nat.le_of_ble_eq_true rfl, Nat.le_of_ble_eq_true rfl⟩ hl.1 rfl (Nat.le_of_ble_eq_true rfl) dX9_isAllowed_16 ⟨Nat.zero_le _, Nat.zero_le _⟩) (fun r3 w3 H locs h hw => ?_)
    refine lv_iload_n hx hb dX9_isAllowed_19 rfl (lv_at hl 3 rfl) ?_
    refine done_i hw (my_runS (As := [.int r3, .int p3]) (rest := []) C hw (mt_X9_has l C.2.2.2.2.2.2.2 hF _ _ _ h) K_m_X9_118 K_s_X9_has K_n_X9 K_c_X9_has hy_X9_has ⟨Nat.le_of_ble_eq_true rfl, Nat.le_of_ble_eq_true rfl⟩ hl.1 rfl (Nat.le_of_ble_eq_true rfl) dX9_isAllowed_20 ⟨Nat.zero_le _, Nat.zero_le _⟩) (fun r4 w4 H locs h hw => ?_)
    refine lv_if_eq (tgt := 57) hx hb dX9_isAllowed_23 (by decide) (fun c2 => ?_) (fun c2 => ?_)
    · have h := h.1 c2
      refine lv_iconst (v := 0) hx hb dX9_isAllowed_57 (by decide) ?_
      rw [hQ]
      exact ret_z C hr hlk hw h (by decide) dX9_isAllowed_58
    · have h := h.2 c2
      refine lv_aload_n hx hb dX9_isAllowed_26 rfl (lv_at hl 0 rfl) ?_
      refine lv_iload_n hx hb dX9_isAllowed_27 rfl (lv_at hl 1 rfl) ?_
      refine lv_aload_n hx hb dX9_isAllowed_28 rfl (lv_at hl 0 rfl) ?_
      refine lv_iload_n hx hb dX9_isAllowed_29 rfl (lv_at hl 1 rfl) ?_
      refine lv_iconst (v := 2) hx hb dX9_isAllowed_30 (by decide) ?_
      refine done_i hw (my_runV (As := [.int p1, .int 2]) (rest := [.int p1, .ref (eA E 15)]) C hw 15 9 (hF 15 (by decide)) rfl rfl (mt_X9_of l C.2.2.2.2.2.2.2 hF _ _ _ h) K_m_X9_173 K_i_X9_of K_v_X9_of K_n_X9 K_c_X9_of hy_X9_of ⟨Nat.le_of_ble_eq_true rfl, Nat.le_of_ble_eq_true rfl⟩ hl.1 rfl (Nat.le_of_ble_eq_true rfl) dX9_isAllowed_31 ⟨Nat.zero_le _, Nat.zero_le _⟩) (fun r5 w5 H locs h hw => ?_)
      refine lv_iload_n hx hb dX9_isAllowed_34 rfl (lv_at hl 2 rfl) ?_
      refine lv_iload_n hx hb dX9_isAllowed_35 rfl (lv_at hl 3 rfl) ?_
      refine done_i hw (my_runV (As := [.int p1, .int r5, .int p2, .int p3]) (rest := []) C hw 15 9 (hF 15 (by decide)) rfl rfl (mt_X9_behind l C.2.2.2.2.2.2.2 hF _ _ _ _ _ h) K_m_X9_180 K_i_X9_behind K_v_X9_behind K_n_X9 K_c_X9_behind hy_X9_behind ⟨Nat.le_of_ble_eq_true rfl, Nat.le_of_ble_eq_true rfl⟩ hl.1 rfl (Nat.le_of_ble_eq_true rfl) dX9_isAllowed_36 ⟨Nat.zero_le _, Nat.zero_le _⟩) (fun r6 w6 H locs h hw => ?_)
      refine lv_iconst (v := (-1)) hx hb dX9_isAllowed_39 (by decide) ?_
      refine lv_icmp_eq (tgt := 57) hx hb dX9_isAllowed_40 (by decide) (fun c3 => ?_) (fun c3 => ?_)
      · have h := h.1 c3
        refine lv_iconst (v := 0) hx hb dX9_isAllowed_57 (by decide) ?_
        rw [hQ]
        exact ret_z C hr hlk hw h (by decide) dX9_isAllowed_58
      · have h := h.2 c3
        refine lv_aload_n hx hb dX9_isAllowed_43 rfl (lv_at hl 0 rfl) ?_
        refine lv_iload_n hx hb dX9_isAllowed_44 rfl (lv_at hl 1 rfl) ?_
        refine lv_iload_n hx hb dX9_isAllowed_45 rfl (lv_at hl 2 rfl) ?_
        refine lv_iload_n hx hb dX9_isAllowed_46 rfl (lv_at hl 3 rfl) ?_
        refine done_i hw (my_runV (As := [.int p1, .int p2, .int p3]) (rest := []) C hw 15 9 (hF 15 (by decide)) rfl rfl (mt_X9_barred l C.2.2.2.2.2.2.2 hF _ _ _ _ h) K_m_X9_220 K_i_X9_barred K_v_X9_barred K_n_X9 K_c_X9_barred hy_X9_barred ⟨Nat.le_of_ble_eq_true rfl, Nat.le_of_ble_eq_true rfl⟩ hl.1 rfl (Nat.le_of_ble_eq_true rfl) dX9_isAllowed_47 ⟨Nat.zero_le _, Nat.zero_le _⟩) (fun r7 w7 H locs h hw => ?_)
        refine lv_if_ne (tgt := 57) hx hb dX9_isAllowed_50 (by decide) (fun c4 => ?_) (fun c4 => ?_)
        · have h := h.2 c4
          refine lv_iconst (v := 0) hx hb dX9_isAllowed_57 (by decide) ?_
          rw [hQ]
          exact ret_z C hr hlk hw h (by decide) dX9_isAllowed_58
        · have h := h.1 c4
          refine lv_iconst (v := 1) hx hb dX9_isAllowed_53 (by decide) ?_
          refine lv_goto (tgt := 58) hx hb dX9_isAllowed_54 (by decide) ?_
          rw [hQ]
          exact ret_z C hr hlk hw h (by decide) dX9_isAllowed_58
theorem hy_X9_finds : yX9_finds.cls ≠ "java/lang/invoke/MethodHandle" ∧ yX9_finds.cls ≠ "java/lang/invoke/VarHandle" ∧ (parseMethodDescriptor yX9_finds.desc).map (fun d => d.parameters.length) = some 1 := by decide +kernel
def wp_X9_finds (w : Wd) (p1 : Int32) (Post : Int32 → Wd → Prop) : Prop :=
  ∀ J4 : Int32 → Int32 → Wd → Prop, ∀ J20 : Int32 → Int32 → Int32 → Wd → Prop, ∀ J28 : Int32 → Int32 → Int32 → Int32 → Wd → Prop, (∀ (x2 : Int32) (x3 : Int32) (w : Wd), (wp_X9_ladders w (fun r1 w1 => (r1 ≤ x3 → (Post x2 w1)) ∧ (¬ r1 ≤ x3 → (wp_X9_of w1 x3 0 (fun r2 w2 => J20 x2 x3 r2 w2))))) → J4 x2 x3 w) →
  (∀ (x2 : Int32) (x3 : Int32) (x4 : Int32) (w : Wd), ((x4 ≤ 0 → (∀ y1 : Int32, y1 = x3 + 1 → (J4 x2 y1 w))) ∧ (¬ x4 ≤ 0 → (J28 x2 x3 x4 1 w))) → J20 x2 x3 x4 w) →
  (∀ (x2 : Int32) (x3 : Int32) (x4 : Int32) (x5 : Int32) (w : Wd), ((12 < x5 → (∀ y2 : Int32, y2 = x4 + (-1) → (J20 x2 x3 y2 w))) ∧ (¬ 12 < x5 → (wp_X9_isAllowed w x3 x4 x5 (fun r3 w3 => (r3 = 0 → (∀ y7 : Int32, y7 = x5 + 1 → (J28 x2 x3 x4 y7 w3))) ∧ (¬ r3 = 0 → ((x2 = p1 → (∀ y5 : Int32, y5 = x2 + 1 → (∀ y6 : Int32, y6 = x5 + 1 → (J28 y5 x3 x4 y6 (sI (sI (sI w3 15 23 x3) 15 24 x4) 15 25 x5))))) ∧ (¬ x2 = p1 → (∀ y3 : Int32, y3 = x2 + 1 → (∀ y4 : Int32, y4 = x5 + 1 → (J28 y3 x3 x4 y4 w3)))))))))) → J28 x2 x3 x4 x5 w) →
  J4 0 0 w
set_option maxHeartbeats 4000000 in
set_option maxRecDepth 100000 in
theorem mt_X9_finds (l : Launch) {E : En} (hI : Inj E) (hF : ∀ o, (15 ≤ o ∧ o < 25) → o ∈ eL E) (w : Wd) (p1 : Int32) {Post : Int32 → Wd → Prop} (h : wp_X9_finds w p1 Post) : MI l E yX9_finds cX9_finds 6 (some .int) 4 91 [.ref (eA E 15), .int p1] w Post := by
  refine MG.intro hI (by decide +kernel) (Nat.le_of_ble_eq_true rfl) ?_
  intro p e s m args below meth c Q C hr hlk hQ hw ls hl
  have hx := C.1
  have hb := C.2.1
  have hl : lv_has ls 6 [(0, .ref (eA E 15)), (1, .int p1)] := hl
  unfold wp_X9_finds at h
  have h := h (fun x2 x3 w => Jp E p l e (Rm 4 91) s m args below meth c Q 6 4 [(0, .ref (eA E 15)), (1, .int p1), (2, .int x2), (3, .int x3)] w)
  have h := h (fun x2 x3 x4 w => Jp E p l e (Rm 4 91) s m args below meth c Q 6 20 [(0, .ref (eA E 15)), (1, .int p1), (2, .int x2), (3, .int x3), (4, .int x4)] w)
  have h := h (fun x2 x3 x4 x5 w => Jp E p l e (Rm 4 91) s m args below meth c Q 6 28 [(0, .ref (eA E 15)), (1, .int p1), (2, .int x2), (3, .int x3), (4, .int x4), (5, .int x5)] w)
  have h := h ?_
  rotate_left
  · intro x2 x3 w h H locs hw ls hl
    refine lv_iload_n hx hb dX9_finds_4 rfl (lv_at hl 3 rfl) ?_
    refine lv_aload_n hx hb dX9_finds_5 rfl (lv_at hl 0 rfl) ?_
    refine done_i hw (my_runV (As := []) (rest := [.int x3]) C hw 15 9 (hF 15 (by decide)) rfl rfl (mt_X9_ladders l C.2.2.2.2.2.2.2 hF _ h) K_m_X9_163 K_i_X9_ladders K_v_X9_ladders K_n_X9 K_c_X9_ladders hy_X9_ladders ⟨Nat.le_of_ble_eq_true rfl, Nat.le_of_ble_eq_true rfl⟩ hl.1 rfl (Nat.le_of_ble_eq_true rfl) dX9_finds_6 ⟨Nat.zero_le _, Nat.zero_le _⟩) (fun r1 w1 H locs h hw => ?_)
    refine lv_icmp_ge (tgt := 93) hx hb dX9_finds_9 (by decide) (fun c1 => ?_) (fun c1 => ?_)
    · have h := h.1 c1
      refine lv_iload_n hx hb dX9_finds_93 rfl (lv_at hl 2 rfl) ?_
      rw [hQ]
      exact ret_i C hr hlk hw h dX9_finds_94
    · have h := h.2 c1
      refine lv_aload_n hx hb dX9_finds_12 rfl (lv_at hl 0 rfl) ?_
      refine lv_iload_n hx hb dX9_finds_13 rfl (lv_at hl 3 rfl) ?_
      refine lv_iconst (v := 0) hx hb dX9_finds_14 (by decide) ?_
      refine done_i hw (my_runV (As := [.int x3, .int 0]) (rest := []) C hw 15 9 (hF 15 (by decide)) rfl rfl (mt_X9_of l C.2.2.2.2.2.2.2 hF _ _ _ h) K_m_X9_173 K_i_X9_of K_v_X9_of K_n_X9 K_c_X9_of hy_X9_of ⟨Nat.le_of_ble_eq_true rfl, Nat.le_of_ble_eq_true rfl⟩ hl.1 rfl (Nat.le_of_ble_eq_true rfl) dX9_finds_15 ⟨Nat.zero_le _, Nat.zero_le _⟩) (fun r2 w2 H locs h hw => ?_)
      refine lv_istore (lv' := [(4, .int r2), (0, .ref (eA E 15)), (1, .int p1), (2, .int x2), (3, .int x3)]) hx hb dX9_finds_18 hl (by decide) rfl (fun ls hl => ?_)
      exact h _ _ hw _ (lv_sub hl [1, 2, 3, 4, 0] rfl)
  have h := h ?_
  rotate_left
  · intro x2 x3 x4 w h H locs hw ls hl
    refine lv_iload hx hb dX9_finds_20 (lv_at hl 4 rfl) ?_
    refine lv_if_le (tgt := 87) hx hb dX9_finds_22 (by decide) (fun c2 => ?_) (fun c2 => ?_)
    · have h := h.1 c2
      obtain ⟨y1, ey1⟩ : ∃ y : Int32, y = x3 + 1 := ⟨_, rfl⟩
      have h := h y1 ey1
      refine lv_iinc (v := y1) (lv' := [(3, .int y1), (0, .ref (eA E 15)), (1, .int p1), (2, .int x2), (4, .int x4)]) hx hb dX9_finds_87 hl (k := 3) rfl (by rw [ey1]; first | rfl | decide) (by decide) rfl (fun ls hl => ?_)
      refine lv_goto (tgt := 4) hx hb dX9_finds_90 (by decide) ?_
      exact h _ _ hw _ (lv_sub hl [1, 2, 3, 0] rfl)
    · have h := h.2 c2
      refine lv_iconst (v := 1) hx hb dX9_finds_25 (by decide) ?_
      refine lv_istore (lv' := [(5, .int 1), (0, .ref (eA E 15)), (1, .int p1), (2, .int x2), (3, .int x3), (4, .int x4)]) hx hb dX9_finds_26 hl (by decide) rfl (fun ls hl => ?_)
      exact h _ _ hw _ (lv_sub hl [1, 2, 3, 4, 5, 0] rfl)
  have h := h ?_
  rotate_left
  · intro x2 x3 x4 x5 w h H locs hw ls hl
    refine lv_iload hx hb dX9_finds_28 (lv_at hl 5 rfl) ?_
    refine lv_bipush (v := 12) hx hb dX9_finds_30 (by decide) ?_
    refine lv_icmp_gt (tgt := 81) hx hb dX9_finds_32 (by decide) (fun c3 => ?_) (fun c3 => ?_)
    · have h := h.1 c3
      obtain ⟨y2, ey2⟩ : ∃ y : Int32, y = x4 + (-1) := ⟨_, rfl⟩
      have h := h y2 ey2
      refine lv_iinc (v := y2) (lv' := [(4, .int y2), (0, .ref (eA E 15)), (1, .int p1), (2, .int x2), (3, .int x3), (5, .int x5)]) hx hb dX9_finds_81 hl (k := 4) rfl (by rw [ey2]; first | rfl | decide) (by decide) rfl (fun ls hl => ?_)
      refine lv_goto (tgt := 20) hx hb dX9_finds_84 (by decide) ?_
      exact h _ _ hw _ (lv_sub hl [1, 2, 3, 4, 0] rfl)
    · have h := h.2 c3
      refine lv_aload_n hx hb dX9_finds_35 rfl (lv_at hl 0 rfl) ?_
      refine lv_iload_n hx hb dX9_finds_36 rfl (lv_at hl 3 rfl) ?_
      refine lv_iload hx hb dX9_finds_37 (lv_at hl 4 rfl) ?_
      refine lv_iload hx hb dX9_finds_39 (lv_at hl 5 rfl) ?_
      refine done_i hw (my_runV (As := [.int x3, .int x4, .int x5]) (rest := []) C hw 15 9 (hF 15 (by decide)) rfl rfl (mt_X9_isAllowed l C.2.2.2.2.2.2.2 hF _ _ _ _ h) K_m_X9_241 K_i_X9_isAllowed K_v_X9_isAllowed K_n_X9 K_c_X9_isAllowed hy_X9_isAllowed ⟨Nat.le_of_ble_eq_true rfl, Nat.le_of_ble_eq_true rfl⟩ hl.1 rfl (Nat.le_of_ble_eq_true rfl) dX9_finds_41 ⟨Nat.zero_le _, Nat.zero_le _⟩) (fun r3 w3 H locs h hw => ?_)
      refine lv_if_ne (tgt := 50) hx hb dX9_finds_44 (by decide) (fun c4 => ?_) (fun c4 => ?_)
      · have h := h.2 c4
        refine lv_iload_n hx hb dX9_finds_50 rfl (lv_at hl 2 rfl) ?_
        refine lv_iload_n hx hb dX9_finds_51 rfl (lv_at hl 1 rfl) ?_
        refine lv_icmp_ne (tgt := 72) hx hb dX9_finds_52 (by decide) (fun c5 => ?_) (fun c5 => ?_)
        · have h := h.2 c5
          obtain ⟨y3, ey3⟩ : ∃ y : Int32, y = x2 + 1 := ⟨_, rfl⟩
          have h := h y3 ey3
          refine lv_iinc (v := y3) (lv' := [(2, .int y3), (0, .ref (eA E 15)), (1, .int p1), (3, .int x3), (4, .int x4), (5, .int x5)]) hx hb dX9_finds_72 hl (k := 2) rfl (by rw [ey3]; first | rfl | decide) (by decide) rfl (fun ls hl => ?_)
          obtain ⟨y4, ey4⟩ : ∃ y : Int32, y = x5 + 1 := ⟨_, rfl⟩
          have h := h y4 ey4
          refine lv_iinc (v := y4) (lv' := [(5, .int y4), (2, .int y3), (0, .ref (eA E 15)), (1, .int p1), (3, .int x3), (4, .int x4)]) hx hb dX9_finds_75 hl (k := 5) rfl (by rw [ey4]; first | rfl | decide) (by decide) rfl (fun ls hl => ?_)
          refine lv_goto (tgt := 28) hx hb dX9_finds_78 (by decide) ?_
          exact h _ _ hw _ (lv_sub hl [2, 3, 1, 4, 5, 0] rfl)
        · have h := h.1 c5
          refine lv_aload_n hx hb dX9_finds_55 rfl (lv_at hl 0 rfl) ?_
          refine lv_iload_n hx hb dX9_finds_56 rfl (lv_at hl 3 rfl) ?_
          refine p9_23 C hw (hF 15 (by decide)) K_f_X9_244 dX9_finds_57 (fun H locs hw => ?_)
          refine lv_aload_n hx hb dX9_finds_60 rfl (lv_at hl 0 rfl) ?_
          refine lv_iload hx hb dX9_finds_61 (lv_at hl 4 rfl) ?_
          refine p9_24 C hw (hF 15 (by decide)) K_f_X9_247 dX9_finds_63 (fun H locs hw => ?_)
          refine lv_aload_n hx hb dX9_finds_66 rfl (lv_at hl 0 rfl) ?_
          refine lv_iload hx hb dX9_finds_67 (lv_at hl 5 rfl) ?_
          refine p9_25 C hw (hF 15 (by decide)) K_f_X9_250 dX9_finds_69 (fun H locs hw => ?_)
          obtain ⟨y5, ey5⟩ : ∃ y : Int32, y = x2 + 1 := ⟨_, rfl⟩
          have h := h y5 ey5
          refine lv_iinc (v := y5) (lv' := [(2, .int y5), (0, .ref (eA E 15)), (1, .int p1), (3, .int x3), (4, .int x4), (5, .int x5)]) hx hb dX9_finds_72 hl (k := 2) rfl (by rw [ey5]; first | rfl | decide) (by decide) rfl (fun ls hl => ?_)
          obtain ⟨y6, ey6⟩ : ∃ y : Int32, y = x5 + 1 := ⟨_, rfl⟩
          have h := h y6 ey6
          refine lv_iinc (v := y6) (lv' := [(5, .int y6), (2, .int y5), (0, .ref (eA E 15)), (1, .int p1), (3, .int x3), (4, .int x4)]) hx hb dX9_finds_75 hl (k := 5) rfl (by rw [ey6]; first | rfl | decide) (by decide) rfl (fun ls hl => ?_)
          refine lv_goto (tgt := 28) hx hb dX9_finds_78 (by decide) ?_
          exact h _ _ hw _ (lv_sub hl [2, 3, 1, 4, 5, 0] rfl)
      · have h := h.1 c4
        refine lv_goto (tgt := 75) hx hb dX9_finds_47 (by decide) ?_
        obtain ⟨y7, ey7⟩ : ∃ y : Int32, y = x5 + 1 := ⟨_, rfl⟩
        have h := h y7 ey7
        refine lv_iinc (v := y7) (lv' := [(5, .int y7), (0, .ref (eA E 15)), (1, .int p1), (2, .int x2), (3, .int x3), (4, .int x4)]) hx hb dX9_finds_75 hl (k := 5) rfl (by rw [ey7]; first | rfl | decide) (by decide) rfl (fun ls hl => ?_)
        refine lv_goto (tgt := 28) hx hb dX9_finds_78 (by decide) ?_
        exact h _ _ hw _ (lv_sub hl [1, 2, 3, 4, 5, 0] rfl)
  refine lv_iconst (v := 0) hx hb dX9_finds_0 (by decide) ?_
  refine lv_istore_n (lv' := [(2, .int 0), (0, .ref (eA E 15)), (1, .int p1)]) hx hb dX9_finds_1 rfl hl (by decide) rfl (fun ls hl => ?_)
  refine lv_iconst (v := 0) hx hb dX9_finds_2 (by decide) ?_
  refine lv_istore_n (lv' := [(3, .int 0), (2, .int 0), (0, .ref (eA E 15)), (1, .int p1)]) hx hb dX9_finds_3 rfl hl (by decide) rfl (fun ls hl => ?_)
  exact h _ _ hw _ (lv_sub hl [2, 3, 1, 0] rfl)
theorem hy_X9_sumBehind : yX9_sumBehind.cls ≠ "java/lang/invoke/MethodHandle" ∧ yX9_sumBehind.cls ≠ "java/lang/invoke/VarHandle" ∧ (parseMethodDescriptor yX9_sumBehind.desc).map (fun d => d.parameters.length) = some 0 := by decide +kernel
def wp_X9_sumBehind (w : Wd) (Post : Int32 → Wd → Prop) : Prop :=
  wp_X9_sumNow w (fun r1 w1 => wp_X9_lays w1 (gI w1 15 23) (fun w2 => wp_X9_of w2 (gI w2 15 23) 2 (fun r2 w3 => vp_in r2 8192 ∧ (wp_X9_of w3 (gI w3 15 23) 2 (fun r3 w4 => wp_X9_behind w4 (gI w3 15 23) r3 (gI w4 15 24) (gI w4 15 25) (fun r4 w5 => vp_in r4 8192 ∧ (Post ((r1 ^^^ (gA w3 22 r2.toNatClampNeg)) ^^^ (gA w5 22 r4.toNatClampNeg)) w5)))))))
set_option maxHeartbeats 4000000 in
set_option maxRecDepth 100000 in
theorem mt_X9_sumBehind (l : Launch) {E : En} (hI : Inj E) (hF : ∀ o, (15 ≤ o ∧ o < 25) → o ∈ eL E) (w : Wd) {Post : Int32 → Wd → Prop} (h : wp_X9_sumBehind w Post) : MI l E yX9_sumBehind cX9_sumBehind 2 (some .int) 7 161 [.ref (eA E 15)] w Post := by
  refine MG.intro hI (by decide +kernel) (Nat.le_of_ble_eq_true rfl) ?_
  intro p e s m args below meth c Q C hr hlk hQ hw ls hl
  have hx := C.1
  have hb := C.2.1
  have hl : lv_has ls 2 [(0, .ref (eA E 15))] := hl
  unfold wp_X9_sumBehind at h
  refine lv_aload_n hx hb dX9_sumBehind_0 rfl (lv_at hl 0 rfl) ?_
  refine done_i hw (my_runV (As := []) (rest := []) C hw 15 9 (hF 15 (by decide)) rfl rfl (mt_X9_sumNow l C.2.2.2.2.2.2.2 hF _ h) K_m_X9_201 K_i_X9_sumNow K_v_X9_sumNow K_n_X9 K_c_X9_sumNow hy_X9_sumNow ⟨Nat.le_of_ble_eq_true rfl, Nat.le_of_ble_eq_true rfl⟩ hl.1 rfl (Nat.le_of_ble_eq_true rfl) dX9_sumBehind_1 ⟨Nat.zero_le _, Nat.zero_le _⟩) (fun r1 w1 H locs h hw => ?_)
  refine lv_istore_n (lv' := [(1, .int r1), (0, .ref (eA E 15))]) hx hb dX9_sumBehind_4 rfl hl (by decide) rfl (fun ls hl => ?_)
  refine lv_aload_n hx hb dX9_sumBehind_5 rfl (lv_at hl 1 rfl) ?_
  refine lv_aload_n hx hb dX9_sumBehind_6 rfl (lv_at hl 1 rfl) ?_
  refine g9_23 C hw (hF 15 (by decide)) K_f_X9_244 dX9_sumBehind_7 ?_
  refine done_v hw (my_runV (As := [.int (gI w1 15 23)]) (rest := []) C hw 15 9 (hF 15 (by decide)) rfl rfl (mt_X9_lays l C.2.2.2.2.2.2.2 hF _ _ h) K_m_X9_184 K_i_X9_lays K_v_X9_lays K_n_X9 K_c_X9_lays hy_X9_lays ⟨Nat.le_of_ble_eq_true rfl, Nat.le_of_ble_eq_true rfl⟩ hl.1 rfl (Nat.le_of_ble_eq_true rfl) dX9_sumBehind_10 ⟨Nat.zero_le _, Nat.zero_le _⟩) (fun w2 H locs h hw => ?_)
  refine lv_iload_n hx hb dX9_sumBehind_13 rfl (lv_at hl 0 rfl) ?_
  refine lv_aload_n hx hb dX9_sumBehind_14 rfl (lv_at hl 1 rfl) ?_
  refine g9_18 C hw (hF 15 (by decide)) K_f_X9_30 dX9_sumBehind_15 ?_
  refine lv_aload_n hx hb dX9_sumBehind_18 rfl (lv_at hl 1 rfl) ?_
  refine lv_aload_n hx hb dX9_sumBehind_19 rfl (lv_at hl 1 rfl) ?_
  refine g9_23 C hw (hF 15 (by decide)) K_f_X9_244 dX9_sumBehind_20 ?_
  refine lv_iconst (v := 2) hx hb dX9_sumBehind_23 (by decide) ?_
  refine done_i hw (my_runV (As := [.int (gI w2 15 23), .int 2]) (rest := [.ref (eA E 22), .int r1]) C hw 15 9 (hF 15 (by decide)) rfl rfl (mt_X9_of l C.2.2.2.2.2.2.2 hF _ _ _ h) K_m_X9_173 K_i_X9_of K_v_X9_of K_n_X9 K_c_X9_of hy_X9_of ⟨Nat.le_of_ble_eq_true rfl, Nat.le_of_ble_eq_true rfl⟩ hl.1 rfl (Nat.le_of_ble_eq_true rfl) dX9_sumBehind_24 ⟨Nat.zero_le _, Nat.zero_le _⟩) (fun r2 w3 H locs h hw => ?_)
  obtain ⟨hi1, h⟩ := h
  refine r_iald C hw 22 8192 (hF 22 (by decide)) rfl hi1 dX9_sumBehind_27 ?_
  refine lv_ixor hx hb dX9_sumBehind_28 ?_
  refine lv_aload_n hx hb dX9_sumBehind_29 rfl (lv_at hl 1 rfl) ?_
  refine g9_18 C hw (hF 15 (by decide)) K_f_X9_30 dX9_sumBehind_30 ?_
  refine lv_aload_n hx hb dX9_sumBehind_33 rfl (lv_at hl 1 rfl) ?_
  refine lv_aload_n hx hb dX9_sumBehind_34 rfl (lv_at hl 1 rfl) ?_
  refine g9_23 C hw (hF 15 (by decide)) K_f_X9_244 dX9_sumBehind_35 ?_
  refine lv_aload_n hx hb dX9_sumBehind_38 rfl (lv_at hl 1 rfl) ?_
  refine lv_aload_n hx hb dX9_sumBehind_39 rfl (lv_at hl 1 rfl) ?_
  refine g9_23 C hw (hF 15 (by decide)) K_f_X9_244 dX9_sumBehind_40 ?_
  refine lv_iconst (v := 2) hx hb dX9_sumBehind_43 (by decide) ?_
  refine done_i hw (my_runV (As := [.int (gI w3 15 23), .int 2]) (rest := [.int (gI w3 15 23), .ref (eA E 15), .ref (eA E 22), .int (r1 ^^^ (gA w3 22 r2.toNatClampNeg))]) C hw 15 9 (hF 15 (by decide)) rfl rfl (mt_X9_of l C.2.2.2.2.2.2.2 hF _ _ _ h) K_m_X9_173 K_i_X9_of K_v_X9_of K_n_X9 K_c_X9_of hy_X9_of ⟨Nat.le_of_ble_eq_true rfl, Nat.le_of_ble_eq_true rfl⟩ hl.1 rfl (Nat.le_of_ble_eq_true rfl) dX9_sumBehind_44 ⟨Nat.zero_le _, Nat.zero_le _⟩) (fun r3 w4 H locs h hw => ?_)
  refine lv_aload_n hx hb dX9_sumBehind_47 rfl (lv_at hl 1 rfl) ?_
  refine g9_24 C hw (hF 15 (by decide)) K_f_X9_247 dX9_sumBehind_48 ?_
  refine lv_aload_n hx hb dX9_sumBehind_51 rfl (lv_at hl 1 rfl) ?_
  refine g9_25 C hw (hF 15 (by decide)) K_f_X9_250 dX9_sumBehind_52 ?_
  refine done_i hw (my_runV (As := [.int (gI w3 15 23), .int r3, .int (gI w4 15 24), .int (gI w4 15 25)]) (rest := [.ref (eA E 22), .int (r1 ^^^ (gA w3 22 r2.toNatClampNeg))]) C hw 15 9 (hF 15 (by decide)) rfl rfl (mt_X9_behind l C.2.2.2.2.2.2.2 hF _ _ _ _ _ h) K_m_X9_180 K_i_X9_behind K_v_X9_behind K_n_X9 K_c_X9_behind hy_X9_behind ⟨Nat.le_of_ble_eq_true rfl, Nat.le_of_ble_eq_true rfl⟩ hl.1 rfl (Nat.le_of_ble_eq_true rfl) dX9_sumBehind_55 ⟨Nat.zero_le _, Nat.zero_le _⟩) (fun r4 w5 H locs h hw => ?_)
  obtain ⟨hi2, h⟩ := h
  refine r_iald C hw 22 8192 (hF 22 (by decide)) rfl hi2 dX9_sumBehind_58 ?_
  refine lv_ixor hx hb dX9_sumBehind_59 ?_
  rw [hQ]
  exact ret_i C hr hlk hw h dX9_sumBehind_60
theorem hy_X9_allowed : yX9_allowed.cls ≠ "java/lang/invoke/MethodHandle" ∧ yX9_allowed.cls ≠ "java/lang/invoke/VarHandle" ∧ (parseMethodDescriptor yX9_allowed.desc).map (fun d => d.parameters.length) = some 0 := by decide +kernel
def wp_X9_allowed (w : Wd) (Post : Int32 → Wd → Prop) : Prop :=
  wp_X9_finds (sI w 15 0 0) ((-1)) (fun r1 w1 => Post r1 w1)
set_option maxHeartbeats 4000000 in
set_option maxRecDepth 100000 in
theorem mt_X9_allowed (l : Launch) {E : En} (hI : Inj E) (hF : ∀ o, (15 ≤ o ∧ o < 25) → o ∈ eL E) (w : Wd) {Post : Int32 → Wd → Prop} (h : wp_X9_allowed w Post) : MI l E yX9_allowed cX9_allowed 1 (some .int) 5 116 [.ref (eA E 15)] w Post := by
  refine MG.intro hI (by decide +kernel) (Nat.le_of_ble_eq_true rfl) ?_
  intro p e s m args below meth c Q C hr hlk hQ hw ls hl
  have hx := C.1
  have hb := C.2.1
  have hl : lv_has ls 1 [(0, .ref (eA E 15))] := hl
  unfold wp_X9_allowed at h
  refine lv_aload_n hx hb dX9_allowed_0 rfl (lv_at hl 0 rfl) ?_
  refine lv_iconst (v := 0) hx hb dX9_allowed_1 (by decide) ?_
  refine p9_0 C hw (hF 15 (by decide)) K_f_X9_45 dX9_allowed_2 (fun H locs hw => ?_)
  refine lv_aload_n hx hb dX9_allowed_5 rfl (lv_at hl 0 rfl) ?_
  refine lv_iconst (v := (-1)) hx hb dX9_allowed_6 (by decide) ?_
  refine done_i hw (my_runV (As := [.int ((-1))]) (rest := []) C hw 15 9 (hF 15 (by decide)) rfl rfl (mt_X9_finds l C.2.2.2.2.2.2.2 hF _ _ h) K_m_X9_253 K_i_X9_finds K_v_X9_finds K_n_X9 K_c_X9_finds hy_X9_finds ⟨Nat.le_of_ble_eq_true rfl, Nat.le_of_ble_eq_true rfl⟩ hl.1 rfl (Nat.le_of_ble_eq_true rfl) dX9_allowed_7 ⟨Nat.zero_le _, Nat.zero_le _⟩) (fun r1 w1 H locs h hw => ?_)
  rw [hQ]
  exact ret_i C hr hlk hw h dX9_allowed_10
theorem hy_X9_choice : yX9_choice.cls ≠ "java/lang/invoke/MethodHandle" ∧ yX9_choice.cls ≠ "java/lang/invoke/VarHandle" ∧ (parseMethodDescriptor yX9_choice.desc).map (fun d => d.parameters.length) = some 2 := by decide +kernel
def wp_X9_choice (w : Wd) (p1 : Int32) (p2 : Int32) (Post : Int32 → Wd → Prop) : Prop :=
  (p1 < 0 → (((gI (sI w 15 0 1) 15 0) ≤ 0 → ((p2 = 0 → (Post (gI (sI w 15 0 1) 15 23) (sI w 15 0 1))) ∧ (¬ p2 = 0 → ((p2 = 1 → (Post (gI (sI w 15 0 1) 15 24) (sI w 15 0 1))) ∧ (¬ p2 = 1 → ((p2 = 2 → (Post (gI (sI w 15 0 1) 15 25) (sI w 15 0 1))) ∧ (¬ p2 = 2 → (wp_X9_sumBehind (sI w 15 0 1) (fun r1 w1 => Post r1 w1))))))))) ∧ (¬ (gI (sI w 15 0 1) 15 0) ≤ 0 → (Post 0 (sI w 15 0 1))))) ∧ (¬ p1 < 0 → (wp_X9_finds w p1 (fun r2 w2 => (r2 ≤ p1 → (((gI (sI w2 15 0 1) 15 0) ≤ 0 → ((p2 = 0 → (Post (gI (sI w2 15 0 1) 15 23) (sI w2 15 0 1))) ∧ (¬ p2 = 0 → ((p2 = 1 → (Post (gI (sI w2 15 0 1) 15 24) (sI w2 15 0 1))) ∧ (¬ p2 = 1 → ((p2 = 2 → (Post (gI (sI w2 15 0 1) 15 25) (sI w2 15 0 1))) ∧ (¬ p2 = 2 → (wp_X9_sumBehind (sI w2 15 0 1) (fun r3 w3 => Post r3 w3))))))))) ∧ (¬ (gI (sI w2 15 0 1) 15 0) ≤ 0 → (Post 0 (sI w2 15 0 1))))) ∧ (¬ r2 ≤ p1 → (wp_X9_within w2 p2 0 3 (fun r4 w4 => (r4 = 0 → (((gI (sI w4 15 0 2) 15 0) ≤ 0 → ((p2 = 0 → (Post (gI (sI w4 15 0 2) 15 23) (sI w4 15 0 2))) ∧ (¬ p2 = 0 → ((p2 = 1 → (Post (gI (sI w4 15 0 2) 15 24) (sI w4 15 0 2))) ∧ (¬ p2 = 1 → ((p2 = 2 → (Post (gI (sI w4 15 0 2) 15 25) (sI w4 15 0 2))) ∧ (¬ p2 = 2 → (wp_X9_sumBehind (sI w4 15 0 2) (fun r6 w6 => Post r6 w6))))))))) ∧ (¬ (gI (sI w4 15 0 2) 15 0) ≤ 0 → (Post 0 (sI w4 15 0 2))))) ∧ (¬ r4 = 0 → (((gI (sI w4 15 0 0) 15 0) ≤ 0 → ((p2 = 0 → (Post (gI (sI w4 15 0 0) 15 23) (sI w4 15 0 0))) ∧ (¬ p2 = 0 → ((p2 = 1 → (Post (gI (sI w4 15 0 0) 15 24) (sI w4 15 0 0))) ∧ (¬ p2 = 1 → ((p2 = 2 → (Post (gI (sI w4 15 0 0) 15 25) (sI w4 15 0 0))) ∧ (¬ p2 = 2 → (wp_X9_sumBehind (sI w4 15 0 0) (fun r5 w5 => Post r5 w5))))))))) ∧ (¬ (gI (sI w4 15 0 0) 15 0) ≤ 0 → (Post 0 (sI w4 15 0 0)))))))))))
set_option maxHeartbeats 4000000 in
set_option maxRecDepth 100000 in
theorem mt_X9_choice (l : Launch) {E : En} (hI : Inj E) (hF : ∀ o, (15 ≤ o ∧ o < 25) → o ∈ eL E) (w : Wd) (p1 : Int32) (p2 : Int32) {Post : Int32 → Wd → Prop} (h : wp_X9_choice w p1 p2 Post) : MI l E yX9_choice cX9_choice 4 (some .int) 8 182 [.ref (eA E 15), .int p1, .int p2] w Post := by
  refine MG.intro hI (by decide +kernel) (Nat.le_of_ble_eq_true rfl) ?_
  intro p e s m args below meth c Q C hr hlk hQ hw ls hl
  have hx := C.1
  have hb := C.2.1
  have hl : lv_has ls 4 [(0, .ref (eA E 15)), (1, .int p1), (2, .int p2)] := hl
  unfold wp_X9_choice at h
  refine lv_iload_n hx hb dX9_choice_0 rfl (lv_at hl 1 rfl) ?_
  refine lv_if_lt (tgt := 17) hx hb dX9_choice_1 (by decide) (fun c1 => ?_) (fun c1 => ?_)
  · have h := h.1 c1
    refine lv_iconst (v := 0) hx hb dX9_choice_17 (by decide) ?_
    refine lv_istore_n (lv' := [(3, .int 0), (0, .ref (eA E 15)), (1, .int p1), (2, .int p2)]) hx hb dX9_choice_18 rfl hl (by decide) rfl (fun ls hl => ?_)
    refine lv_aload_n hx hb dX9_choice_19 rfl (lv_at hl 1 rfl) ?_
    refine lv_iload_n hx hb dX9_choice_20 rfl (lv_at hl 0 rfl) ?_
    refine lv_if_ne (tgt := 28) hx hb dX9_choice_21 (by decide) (fun c2 => ?_) (fun c2 => ?_)
    · exact absurd c2 (by decide)
    · refine lv_iconst (v := 1) hx hb dX9_choice_24 (by decide) ?_
      refine lv_goto (tgt := 42) hx hb dX9_choice_25 (by decide) ?_
      refine p9_0 C hw (hF 15 (by decide)) K_f_X9_45 dX9_choice_42 (fun H locs hw => ?_)
      refine lv_aload_n hx hb dX9_choice_45 rfl (lv_at hl 1 rfl) ?_
      refine g9_0 C hw (hF 15 (by decide)) K_f_X9_45 dX9_choice_46 ?_
      refine lv_if_le (tgt := 54) hx hb dX9_choice_49 (by decide) (fun c3 => ?_) (fun c3 => ?_)
      · have h := h.1 c3
        refine lv_iload_n hx hb dX9_choice_54 rfl (lv_at hl 3 rfl) ?_
        refine lv_if_ne (tgt := 65) hx hb dX9_choice_55 (by decide) (fun c4 => ?_) (fun c4 => ?_)
        · have h := h.2 c4
          refine lv_iload_n hx hb dX9_choice_65 rfl (lv_at hl 3 rfl) ?_
          refine lv_iconst (v := 1) hx hb dX9_choice_66 (by decide) ?_
          refine lv_icmp_ne (tgt := 77) hx hb dX9_choice_67 (by decide) (fun c5 => ?_) (fun c5 => ?_)
          · have h := h.2 c5
            refine lv_iload_n hx hb dX9_choice_77 rfl (lv_at hl 3 rfl) ?_
            refine lv_iconst (v := 2) hx hb dX9_choice_78 (by decide) ?_
            refine lv_icmp_ne (tgt := 89) hx hb dX9_choice_79 (by decide) (fun c6 => ?_) (fun c6 => ?_)
            · have h := h.2 c6
              refine lv_aload_n hx hb dX9_choice_89 rfl (lv_at hl 1 rfl) ?_
              refine done_i hw (my_runV (As := []) (rest := []) C hw 15 9 (hF 15 (by decide)) rfl rfl (mt_X9_sumBehind l C.2.2.2.2.2.2.2 hF _ h) K_m_X9_256 K_i_X9_sumBehind K_v_X9_sumBehind K_n_X9 K_c_X9_sumBehind hy_X9_sumBehind ⟨Nat.le_of_ble_eq_true rfl, Nat.le_of_ble_eq_true rfl⟩ hl.1 rfl (Nat.le_of_ble_eq_true rfl) dX9_choice_90 ⟨Nat.zero_le _, Nat.zero_le _⟩) (fun r1 w1 H locs h hw => ?_)
              rw [hQ]
              exact ret_i C hr hlk hw h dX9_choice_93
            · have h := h.1 c6
              refine lv_aload_n hx hb dX9_choice_82 rfl (lv_at hl 1 rfl) ?_
              refine g9_25 C hw (hF 15 (by decide)) K_f_X9_250 dX9_choice_83 ?_
              refine lv_goto (tgt := 93) hx hb dX9_choice_86 (by decide) ?_
              rw [hQ]
              exact ret_i C hr hlk hw h dX9_choice_93
          · have h := h.1 c5
            refine lv_aload_n hx hb dX9_choice_70 rfl (lv_at hl 1 rfl) ?_
            refine g9_24 C hw (hF 15 (by decide)) K_f_X9_247 dX9_choice_71 ?_
            refine lv_goto (tgt := 93) hx hb dX9_choice_74 (by decide) ?_
            rw [hQ]
            exact ret_i C hr hlk hw h dX9_choice_93
        · have h := h.1 c4
          refine lv_aload_n hx hb dX9_choice_58 rfl (lv_at hl 1 rfl) ?_
          refine g9_23 C hw (hF 15 (by decide)) K_f_X9_244 dX9_choice_59 ?_
          refine lv_goto (tgt := 93) hx hb dX9_choice_62 (by decide) ?_
          rw [hQ]
          exact ret_i C hr hlk hw h dX9_choice_93
      · have h := h.2 c3
        refine lv_iconst (v := 0) hx hb dX9_choice_52 (by decide) ?_
        rw [hQ]
        exact ret_i C hr hlk hw h dX9_choice_53
  · have h := h.2 c1
    refine lv_iload_n hx hb dX9_choice_4 rfl (lv_at hl 1 rfl) ?_
    refine lv_aload_n hx hb dX9_choice_5 rfl (lv_at hl 0 rfl) ?_
    refine lv_iload_n hx hb dX9_choice_6 rfl (lv_at hl 1 rfl) ?_
    refine done_i hw (my_runV (As := [.int p1]) (rest := [.int p1]) C hw 15 9 (hF 15 (by decide)) rfl rfl (mt_X9_finds l C.2.2.2.2.2.2.2 hF _ _ h) K_m_X9_253 K_i_X9_finds K_v_X9_finds K_n_X9 K_c_X9_finds hy_X9_finds ⟨Nat.le_of_ble_eq_true rfl, Nat.le_of_ble_eq_true rfl⟩ hl.1 rfl (Nat.le_of_ble_eq_true rfl) dX9_choice_7 ⟨Nat.zero_le _, Nat.zero_le _⟩) (fun r2 w2 H locs h hw => ?_)
    refine lv_icmp_ge (tgt := 17) hx hb dX9_choice_10 (by decide) (fun c7 => ?_) (fun c7 => ?_)
    · have h := h.1 c7
      refine lv_iconst (v := 0) hx hb dX9_choice_17 (by decide) ?_
      refine lv_istore_n (lv' := [(3, .int 0), (0, .ref (eA E 15)), (1, .int p1), (2, .int p2)]) hx hb dX9_choice_18 rfl hl (by decide) rfl (fun ls hl => ?_)
      refine lv_aload_n hx hb dX9_choice_19 rfl (lv_at hl 1 rfl) ?_
      refine lv_iload_n hx hb dX9_choice_20 rfl (lv_at hl 0 rfl) ?_
      refine lv_if_ne (tgt := 28) hx hb dX9_choice_21 (by decide) (fun c8 => ?_) (fun c8 => ?_)
      · exact absurd c8 (by decide)
      · refine lv_iconst (v := 1) hx hb dX9_choice_24 (by decide) ?_
        refine lv_goto (tgt := 42) hx hb dX9_choice_25 (by decide) ?_
        refine p9_0 C hw (hF 15 (by decide)) K_f_X9_45 dX9_choice_42 (fun H locs hw => ?_)
        refine lv_aload_n hx hb dX9_choice_45 rfl (lv_at hl 1 rfl) ?_
        refine g9_0 C hw (hF 15 (by decide)) K_f_X9_45 dX9_choice_46 ?_
        refine lv_if_le (tgt := 54) hx hb dX9_choice_49 (by decide) (fun c9 => ?_) (fun c9 => ?_)
        · have h := h.1 c9
          refine lv_iload_n hx hb dX9_choice_54 rfl (lv_at hl 3 rfl) ?_
          refine lv_if_ne (tgt := 65) hx hb dX9_choice_55 (by decide) (fun c10 => ?_) (fun c10 => ?_)
          · have h := h.2 c10
            refine lv_iload_n hx hb dX9_choice_65 rfl (lv_at hl 3 rfl) ?_
            refine lv_iconst (v := 1) hx hb dX9_choice_66 (by decide) ?_
            refine lv_icmp_ne (tgt := 77) hx hb dX9_choice_67 (by decide) (fun c11 => ?_) (fun c11 => ?_)
            · have h := h.2 c11
              refine lv_iload_n hx hb dX9_choice_77 rfl (lv_at hl 3 rfl) ?_
              refine lv_iconst (v := 2) hx hb dX9_choice_78 (by decide) ?_
              refine lv_icmp_ne (tgt := 89) hx hb dX9_choice_79 (by decide) (fun c12 => ?_) (fun c12 => ?_)
              · have h := h.2 c12
                refine lv_aload_n hx hb dX9_choice_89 rfl (lv_at hl 1 rfl) ?_
                refine done_i hw (my_runV (As := []) (rest := []) C hw 15 9 (hF 15 (by decide)) rfl rfl (mt_X9_sumBehind l C.2.2.2.2.2.2.2 hF _ h) K_m_X9_256 K_i_X9_sumBehind K_v_X9_sumBehind K_n_X9 K_c_X9_sumBehind hy_X9_sumBehind ⟨Nat.le_of_ble_eq_true rfl, Nat.le_of_ble_eq_true rfl⟩ hl.1 rfl (Nat.le_of_ble_eq_true rfl) dX9_choice_90 ⟨Nat.zero_le _, Nat.zero_le _⟩) (fun r3 w3 H locs h hw => ?_)
                rw [hQ]
                exact ret_i C hr hlk hw h dX9_choice_93
              · have h := h.1 c12
                refine lv_aload_n hx hb dX9_choice_82 rfl (lv_at hl 1 rfl) ?_
                refine g9_25 C hw (hF 15 (by decide)) K_f_X9_250 dX9_choice_83 ?_
                refine lv_goto (tgt := 93) hx hb dX9_choice_86 (by decide) ?_
                rw [hQ]
                exact ret_i C hr hlk hw h dX9_choice_93
            · have h := h.1 c11
              refine lv_aload_n hx hb dX9_choice_70 rfl (lv_at hl 1 rfl) ?_
              refine g9_24 C hw (hF 15 (by decide)) K_f_X9_247 dX9_choice_71 ?_
              refine lv_goto (tgt := 93) hx hb dX9_choice_74 (by decide) ?_
              rw [hQ]
              exact ret_i C hr hlk hw h dX9_choice_93
          · have h := h.1 c10
            refine lv_aload_n hx hb dX9_choice_58 rfl (lv_at hl 1 rfl) ?_
            refine g9_23 C hw (hF 15 (by decide)) K_f_X9_244 dX9_choice_59 ?_
            refine lv_goto (tgt := 93) hx hb dX9_choice_62 (by decide) ?_
            rw [hQ]
            exact ret_i C hr hlk hw h dX9_choice_93
        · have h := h.2 c9
          refine lv_iconst (v := 0) hx hb dX9_choice_52 (by decide) ?_
          rw [hQ]
          exact ret_i C hr hlk hw h dX9_choice_53
    · have h := h.2 c7
      refine lv_iconst (v := 1) hx hb dX9_choice_13 (by decide) ?_
      refine lv_goto (tgt := 18) hx hb dX9_choice_14 (by decide) ?_
      refine lv_istore_n (lv' := [(3, .int 1), (0, .ref (eA E 15)), (1, .int p1), (2, .int p2)]) hx hb dX9_choice_18 rfl hl (by decide) rfl (fun ls hl => ?_)
      refine lv_aload_n hx hb dX9_choice_19 rfl (lv_at hl 1 rfl) ?_
      refine lv_iload_n hx hb dX9_choice_20 rfl (lv_at hl 0 rfl) ?_
      refine lv_if_ne (tgt := 28) hx hb dX9_choice_21 (by decide) (fun c13 => ?_) (fun c13 => ?_)
      · refine lv_iload_n hx hb dX9_choice_28 rfl (lv_at hl 3 rfl) ?_
        refine lv_iconst (v := 0) hx hb dX9_choice_29 (by decide) ?_
        refine lv_iconst (v := 3) hx hb dX9_choice_30 (by decide) ?_
        refine done_i hw (my_runS (As := [.int p2, .int 0, .int 3]) (rest := [.ref (eA E 15)]) C hw (mt_X9_within l C.2.2.2.2.2.2.2 hF _ _ _ _ h) K_m_X9_72 K_s_X9_within K_n_X9 K_c_X9_within hy_X9_within ⟨Nat.le_of_ble_eq_true rfl, Nat.le_of_ble_eq_true rfl⟩ hl.1 rfl (Nat.le_of_ble_eq_true rfl) dX9_choice_31 ⟨Nat.zero_le _, Nat.zero_le _⟩) (fun r4 w4 H locs h hw => ?_)
        refine lv_if_ne (tgt := 41) hx hb dX9_choice_34 (by decide) (fun c14 => ?_) (fun c14 => ?_)
        · have h := h.2 c14
          refine lv_iconst (v := 0) hx hb dX9_choice_41 (by decide) ?_
          refine p9_0 C hw (hF 15 (by decide)) K_f_X9_45 dX9_choice_42 (fun H locs hw => ?_)
          refine lv_aload_n hx hb dX9_choice_45 rfl (lv_at hl 1 rfl) ?_
          refine g9_0 C hw (hF 15 (by decide)) K_f_X9_45 dX9_choice_46 ?_
          refine lv_if_le (tgt := 54) hx hb dX9_choice_49 (by decide) (fun c15 => ?_) (fun c15 => ?_)
          · have h := h.1 c15
            refine lv_iload_n hx hb dX9_choice_54 rfl (lv_at hl 3 rfl) ?_
            refine lv_if_ne (tgt := 65) hx hb dX9_choice_55 (by decide) (fun c16 => ?_) (fun c16 => ?_)
            · have h := h.2 c16
              refine lv_iload_n hx hb dX9_choice_65 rfl (lv_at hl 3 rfl) ?_
              refine lv_iconst (v := 1) hx hb dX9_choice_66 (by decide) ?_
              refine lv_icmp_ne (tgt := 77) hx hb dX9_choice_67 (by decide) (fun c17 => ?_) (fun c17 => ?_)
              · have h := h.2 c17
                refine lv_iload_n hx hb dX9_choice_77 rfl (lv_at hl 3 rfl) ?_
                refine lv_iconst (v := 2) hx hb dX9_choice_78 (by decide) ?_
                refine lv_icmp_ne (tgt := 89) hx hb dX9_choice_79 (by decide) (fun c18 => ?_) (fun c18 => ?_)
                · have h := h.2 c18
                  refine lv_aload_n hx hb dX9_choice_89 rfl (lv_at hl 1 rfl) ?_
                  refine done_i hw (my_runV (As := []) (rest := []) C hw 15 9 (hF 15 (by decide)) rfl rfl (mt_X9_sumBehind l C.2.2.2.2.2.2.2 hF _ h) K_m_X9_256 K_i_X9_sumBehind K_v_X9_sumBehind K_n_X9 K_c_X9_sumBehind hy_X9_sumBehind ⟨Nat.le_of_ble_eq_true rfl, Nat.le_of_ble_eq_true rfl⟩ hl.1 rfl (Nat.le_of_ble_eq_true rfl) dX9_choice_90 ⟨Nat.zero_le _, Nat.zero_le _⟩) (fun r5 w5 H locs h hw => ?_)
                  rw [hQ]
                  exact ret_i C hr hlk hw h dX9_choice_93
                · have h := h.1 c18
                  refine lv_aload_n hx hb dX9_choice_82 rfl (lv_at hl 1 rfl) ?_
                  refine g9_25 C hw (hF 15 (by decide)) K_f_X9_250 dX9_choice_83 ?_
                  refine lv_goto (tgt := 93) hx hb dX9_choice_86 (by decide) ?_
                  rw [hQ]
                  exact ret_i C hr hlk hw h dX9_choice_93
              · have h := h.1 c17
                refine lv_aload_n hx hb dX9_choice_70 rfl (lv_at hl 1 rfl) ?_
                refine g9_24 C hw (hF 15 (by decide)) K_f_X9_247 dX9_choice_71 ?_
                refine lv_goto (tgt := 93) hx hb dX9_choice_74 (by decide) ?_
                rw [hQ]
                exact ret_i C hr hlk hw h dX9_choice_93
            · have h := h.1 c16
              refine lv_aload_n hx hb dX9_choice_58 rfl (lv_at hl 1 rfl) ?_
              refine g9_23 C hw (hF 15 (by decide)) K_f_X9_244 dX9_choice_59 ?_
              refine lv_goto (tgt := 93) hx hb dX9_choice_62 (by decide) ?_
              rw [hQ]
              exact ret_i C hr hlk hw h dX9_choice_93
          · have h := h.2 c15
            refine lv_iconst (v := 0) hx hb dX9_choice_52 (by decide) ?_
            rw [hQ]
            exact ret_i C hr hlk hw h dX9_choice_53
        · have h := h.1 c14
          refine lv_iconst (v := 2) hx hb dX9_choice_37 (by decide) ?_
          refine lv_goto (tgt := 42) hx hb dX9_choice_38 (by decide) ?_
          refine p9_0 C hw (hF 15 (by decide)) K_f_X9_45 dX9_choice_42 (fun H locs hw => ?_)
          refine lv_aload_n hx hb dX9_choice_45 rfl (lv_at hl 1 rfl) ?_
          refine g9_0 C hw (hF 15 (by decide)) K_f_X9_45 dX9_choice_46 ?_
          refine lv_if_le (tgt := 54) hx hb dX9_choice_49 (by decide) (fun c19 => ?_) (fun c19 => ?_)
          · have h := h.1 c19
            refine lv_iload_n hx hb dX9_choice_54 rfl (lv_at hl 3 rfl) ?_
            refine lv_if_ne (tgt := 65) hx hb dX9_choice_55 (by decide) (fun c20 => ?_) (fun c20 => ?_)
            · have h := h.2 c20
              refine lv_iload_n hx hb dX9_choice_65 rfl (lv_at hl 3 rfl) ?_
              refine lv_iconst (v := 1) hx hb dX9_choice_66 (by decide) ?_
              refine lv_icmp_ne (tgt := 77) hx hb dX9_choice_67 (by decide) (fun c21 => ?_) (fun c21 => ?_)
              · have h := h.2 c21
                refine lv_iload_n hx hb dX9_choice_77 rfl (lv_at hl 3 rfl) ?_
                refine lv_iconst (v := 2) hx hb dX9_choice_78 (by decide) ?_
                refine lv_icmp_ne (tgt := 89) hx hb dX9_choice_79 (by decide) (fun c22 => ?_) (fun c22 => ?_)
                · have h := h.2 c22
                  refine lv_aload_n hx hb dX9_choice_89 rfl (lv_at hl 1 rfl) ?_
                  refine done_i hw (my_runV (As := []) (rest := []) C hw 15 9 (hF 15 (by decide)) rfl rfl (mt_X9_sumBehind l C.2.2.2.2.2.2.2 hF _ h) K_m_X9_256 K_i_X9_sumBehind K_v_X9_sumBehind K_n_X9 K_c_X9_sumBehind hy_X9_sumBehind ⟨Nat.le_of_ble_eq_true rfl, Nat.le_of_ble_eq_true rfl⟩ hl.1 rfl (Nat.le_of_ble_eq_true rfl) dX9_choice_90 ⟨Nat.zero_le _, Nat.zero_le _⟩) (fun r6 w6 H locs h hw => ?_)
                  rw [hQ]
                  exact ret_i C hr hlk hw h dX9_choice_93
                · have h := h.1 c22
                  refine lv_aload_n hx hb dX9_choice_82 rfl (lv_at hl 1 rfl) ?_
                  refine g9_25 C hw (hF 15 (by decide)) K_f_X9_250 dX9_choice_83 ?_
                  refine lv_goto (tgt := 93) hx hb dX9_choice_86 (by decide) ?_
                  rw [hQ]
                  exact ret_i C hr hlk hw h dX9_choice_93
              · have h := h.1 c21
                refine lv_aload_n hx hb dX9_choice_70 rfl (lv_at hl 1 rfl) ?_
                refine g9_24 C hw (hF 15 (by decide)) K_f_X9_247 dX9_choice_71 ?_
                refine lv_goto (tgt := 93) hx hb dX9_choice_74 (by decide) ?_
                rw [hQ]
                exact ret_i C hr hlk hw h dX9_choice_93
            · have h := h.1 c20
              refine lv_aload_n hx hb dX9_choice_58 rfl (lv_at hl 1 rfl) ?_
              refine g9_23 C hw (hF 15 (by decide)) K_f_X9_244 dX9_choice_59 ?_
              refine lv_goto (tgt := 93) hx hb dX9_choice_62 (by decide) ?_
              rw [hQ]
              exact ret_i C hr hlk hw h dX9_choice_93
          · have h := h.2 c19
            refine lv_iconst (v := 0) hx hb dX9_choice_52 (by decide) ?_
            rw [hQ]
            exact ret_i C hr hlk hw h dX9_choice_53
      · exact absurd c13 (by decide)
theorem hy_X9_bestOne : yX9_bestOne.cls ≠ "java/lang/invoke/MethodHandle" ∧ yX9_bestOne.cls ≠ "java/lang/invoke/VarHandle" ∧ (parseMethodDescriptor yX9_bestOne.desc).map (fun d => d.parameters.length) = some 0 := by decide +kernel
def wp_X9_bestOne (w : Wd) (Post : Int32 → Wd → Prop) : Prop :=
  ∀ J9 : Int32 → Int32 → Int32 → Wd → Prop, ∀ J45 : Int32 → Int32 → Int32 → Int32 → Int32 → Wd → Prop, ∀ J53 : Int32 → Int32 → Int32 → Int32 → Int32 → Int32 → Wd → Prop, (∀ (x1 : Int32) (x2 : Int32) (x3 : Int32) (w : Wd), (wp_X9_ladders w (fun r2 w2 => (r2 ≤ x3 → (Post ((-1)) w2)) ∧ (¬ r2 ≤ x3 → (wp_X9_lays w2 x3 (fun w3 => wp_X9_of w3 x3 2 (fun r3 w4 => vp_in r3 8192 ∧ (∀ y1 : Int32, y1 = x1 ^^^ (gA w4 22 r3.toNatClampNeg) → (wp_X9_of w4 x3 0 (fun r4 w5 => J45 x1 x2 x3 y1 r4 w5))))))))) → J9 x1 x2 x3 w) →
  (∀ (x1 : Int32) (x2 : Int32) (x3 : Int32) (x4 : Int32) (x5 : Int32) (w : Wd), ((x5 ≤ 0 → (∀ y2 : Int32, y2 = x3 + 1 → (J9 x1 x2 y2 w))) ∧ (¬ x5 ≤ 0 → (J53 x1 x2 x3 x4 x5 1 w))) → J45 x1 x2 x3 x4 x5 w) →
  (∀ (x1 : Int32) (x2 : Int32) (x3 : Int32) (x4 : Int32) (x5 : Int32) (x6 : Int32) (w : Wd), ((12 < x6 → (∀ y3 : Int32, y3 = x5 + (-1) → (J45 x1 x2 x3 x4 y3 w))) ∧ (¬ 12 < x6 → (wp_X9_isAllowed w x3 x5 x6 (fun r5 w6 => (r5 = 0 → (∀ y6 : Int32, y6 = x6 + 1 → (J53 x1 x2 x3 x4 x5 y6 w6))) ∧ (¬ r5 = 0 → (wp_X9_of w6 x3 2 (fun r6 w7 => wp_X9_behind w7 x3 r6 x5 x6 (fun r7 w8 => vp_in r7 8192 ∧ (((gA w8 22 r7.toNatClampNeg) = x4 → (Post x2 w8)) ∧ (¬ (gA w8 22 r7.toNatClampNeg) = x4 → (∀ y4 : Int32, y4 = x2 + 1 → (∀ y5 : Int32, y5 = x6 + 1 → (J53 x1 y4 x3 x4 x5 y5 w8))))))))))))) → J53 x1 x2 x3 x4 x5 x6 w) →
  wp_X9_sumNow w (fun r1 w1 => J9 r1 0 0 w1)
set_option maxHeartbeats 4000000 in
set_option maxRecDepth 100000 in
theorem mt_X9_bestOne (l : Launch) {E : En} (hI : Inj E) (hF : ∀ o, (15 ≤ o ∧ o < 25) → o ∈ eL E) (w : Wd) {Post : Int32 → Wd → Prop} (h : wp_X9_bestOne w Post) : MI l E yX9_bestOne cX9_bestOne 7 (some .int) 7 161 [.ref (eA E 15)] w Post := by
  refine MG.intro hI (by decide +kernel) (Nat.le_of_ble_eq_true rfl) ?_
  intro p e s m args below meth c Q C hr hlk hQ hw ls hl
  have hx := C.1
  have hb := C.2.1
  have hl : lv_has ls 7 [(0, .ref (eA E 15))] := hl
  unfold wp_X9_bestOne at h
  have h := h (fun x1 x2 x3 w => Jp E p l e (Rm 7 161) s m args below meth c Q 7 9 [(0, .ref (eA E 15)), (1, .int x1), (2, .int x2), (3, .int x3)] w)
  have h := h (fun x1 x2 x3 x4 x5 w => Jp E p l e (Rm 7 161) s m args below meth c Q 7 45 [(0, .ref (eA E 15)), (1, .int x1), (2, .int x2), (3, .int x3), (4, .int x4), (5, .int x5)] w)
  have h := h (fun x1 x2 x3 x4 x5 x6 w => Jp E p l e (Rm 7 161) s m args below meth c Q 7 53 [(0, .ref (eA E 15)), (1, .int x1), (2, .int x2), (3, .int x3), (4, .int x4), (5, .int x5), (6, .int x6)] w)
  have h := h ?_
  rotate_left
  · intro x1 x2 x3 w h H locs hw ls hl
    refine lv_iload_n hx hb dX9_bestOne_9 rfl (lv_at hl 3 rfl) ?_
    refine lv_aload_n hx hb dX9_bestOne_10 rfl (lv_at hl 0 rfl) ?_
    refine done_i hw (my_runV (As := []) (rest := [.int x3]) C hw 15 9 (hF 15 (by decide)) rfl rfl (mt_X9_ladders l C.2.2.2.2.2.2.2 hF _ h) K_m_X9_163 K_i_X9_ladders K_v_X9_ladders K_n_X9 K_c_X9_ladders hy_X9_ladders ⟨Nat.le_of_ble_eq_true rfl, Nat.le_of_ble_eq_true rfl⟩ hl.1 rfl (Nat.le_of_ble_eq_true rfl) dX9_bestOne_11 ⟨Nat.zero_le _, Nat.zero_le _⟩) (fun r2 w2 H locs h hw => ?_)
    refine lv_icmp_ge (tgt := 123) hx hb dX9_bestOne_14 (by decide) (fun c1 => ?_) (fun c1 => ?_)
    · have h := h.1 c1
      refine lv_iconst (v := (-1)) hx hb dX9_bestOne_123 (by decide) ?_
      rw [hQ]
      exact ret_i C hr hlk hw h dX9_bestOne_124
    · have h := h.2 c1
      refine lv_aload_n hx hb dX9_bestOne_17 rfl (lv_at hl 0 rfl) ?_
      refine lv_iload_n hx hb dX9_bestOne_18 rfl (lv_at hl 3 rfl) ?_
      refine done_v hw (my_runV (As := [.int x3]) (rest := []) C hw 15 9 (hF 15 (by decide)) rfl rfl (mt_X9_lays l C.2.2.2.2.2.2.2 hF _ _ h) K_m_X9_184 K_i_X9_lays K_v_X9_lays K_n_X9 K_c_X9_lays hy_X9_lays ⟨Nat.le_of_ble_eq_true rfl, Nat.le_of_ble_eq_true rfl⟩ hl.1 rfl (Nat.le_of_ble_eq_true rfl) dX9_bestOne_19 ⟨Nat.zero_le _, Nat.zero_le _⟩) (fun w3 H locs h hw => ?_)
      refine lv_iload_n hx hb dX9_bestOne_22 rfl (lv_at hl 1 rfl) ?_
      refine lv_aload_n hx hb dX9_bestOne_23 rfl (lv_at hl 0 rfl) ?_
      refine g9_18 C hw (hF 15 (by decide)) K_f_X9_30 dX9_bestOne_24 ?_
      refine lv_aload_n hx hb dX9_bestOne_27 rfl (lv_at hl 0 rfl) ?_
      refine lv_iload_n hx hb dX9_bestOne_28 rfl (lv_at hl 3 rfl) ?_
      refine lv_iconst (v := 2) hx hb dX9_bestOne_29 (by decide) ?_
      refine done_i hw (my_runV (As := [.int x3, .int 2]) (rest := [.ref (eA E 22), .int x1]) C hw 15 9 (hF 15 (by decide)) rfl rfl (mt_X9_of l C.2.2.2.2.2.2.2 hF _ _ _ h) K_m_X9_173 K_i_X9_of K_v_X9_of K_n_X9 K_c_X9_of hy_X9_of ⟨Nat.le_of_ble_eq_true rfl, Nat.le_of_ble_eq_true rfl⟩ hl.1 rfl (Nat.le_of_ble_eq_true rfl) dX9_bestOne_30 ⟨Nat.zero_le _, Nat.zero_le _⟩) (fun r3 w4 H locs h hw => ?_)
      obtain ⟨hi1, h⟩ := h
      refine r_iald C hw 22 8192 (hF 22 (by decide)) rfl hi1 dX9_bestOne_33 ?_
      refine lv_ixor hx hb dX9_bestOne_34 ?_
      refine lv_topi (fun y1 ey1 => ?_)
      have h := h y1 ey1
      refine lv_istore (lv' := [(4, .int y1), (0, .ref (eA E 15)), (1, .int x1), (2, .int x2), (3, .int x3)]) hx hb dX9_bestOne_35 hl (by decide) rfl (fun ls hl => ?_)
      refine lv_aload_n hx hb dX9_bestOne_37 rfl (lv_at hl 1 rfl) ?_
      refine lv_iload_n hx hb dX9_bestOne_38 rfl (lv_at hl 4 rfl) ?_
      refine lv_iconst (v := 0) hx hb dX9_bestOne_39 (by decide) ?_
      refine done_i hw (my_runV (As := [.int x3, .int 0]) (rest := []) C hw 15 9 (hF 15 (by decide)) rfl rfl (mt_X9_of l C.2.2.2.2.2.2.2 hF _ _ _ h) K_m_X9_173 K_i_X9_of K_v_X9_of K_n_X9 K_c_X9_of hy_X9_of ⟨Nat.le_of_ble_eq_true rfl, Nat.le_of_ble_eq_true rfl⟩ hl.1 rfl (Nat.le_of_ble_eq_true rfl) dX9_bestOne_40 ⟨Nat.zero_le _, Nat.zero_le _⟩) (fun r4 w5 H locs h hw => ?_)
      refine lv_istore (lv' := [(5, .int r4), (4, .int y1), (0, .ref (eA E 15)), (1, .int x1), (2, .int x2), (3, .int x3)]) hx hb dX9_bestOne_43 hl (by decide) rfl (fun ls hl => ?_)
      exact h _ _ hw _ (lv_sub hl [2, 3, 4, 5, 1, 0] rfl)
  have h := h ?_
  rotate_left
  · intro x1 x2 x3 x4 x5 w h H locs hw ls hl
    refine lv_iload hx hb dX9_bestOne_45 (lv_at hl 5 rfl) ?_
    refine lv_if_le (tgt := 117) hx hb dX9_bestOne_47 (by decide) (fun c2 => ?_) (fun c2 => ?_)
    · have h := h.1 c2
      obtain ⟨y2, ey2⟩ : ∃ y : Int32, y = x3 + 1 := ⟨_, rfl⟩
      have h := h y2 ey2
      refine lv_iinc (v := y2) (lv' := [(3, .int y2), (0, .ref (eA E 15)), (1, .int x1), (2, .int x2), (4, .int x4), (5, .int x5)]) hx hb dX9_bestOne_117 hl (k := 3) rfl (by rw [ey2]; first | rfl | decide) (by decide) rfl (fun ls hl => ?_)
      refine lv_goto (tgt := 9) hx hb dX9_bestOne_120 (by decide) ?_
      exact h _ _ hw _ (lv_sub hl [1, 2, 3, 0] rfl)
    · have h := h.2 c2
      refine lv_iconst (v := 1) hx hb dX9_bestOne_50 (by decide) ?_
      refine lv_istore (lv' := [(6, .int 1), (0, .ref (eA E 15)), (1, .int x1), (2, .int x2), (3, .int x3), (4, .int x4), (5, .int x5)]) hx hb dX9_bestOne_51 hl (by decide) rfl (fun ls hl => ?_)
      exact h _ _ hw _ (lv_sub hl [1, 2, 3, 4, 5, 6, 0] rfl)
  have h := h ?_
  rotate_left
  · intro x1 x2 x3 x4 x5 x6 w h H locs hw ls hl
    refine lv_iload hx hb dX9_bestOne_53 (lv_at hl 6 rfl) ?_
    refine lv_bipush (v := 12) hx hb dX9_bestOne_55 (by decide) ?_
    refine lv_icmp_gt (tgt := 111) hx hb dX9_bestOne_57 (by decide) (fun c3 => ?_) (fun c3 => ?_)
    · have h := h.1 c3
      obtain ⟨y3, ey3⟩ : ∃ y : Int32, y = x5 + (-1) := ⟨_, rfl⟩
      have h := h y3 ey3
      refine lv_iinc (v := y3) (lv' := [(5, .int y3), (0, .ref (eA E 15)), (1, .int x1), (2, .int x2), (3, .int x3), (4, .int x4), (6, .int x6)]) hx hb dX9_bestOne_111 hl (k := 5) rfl (by rw [ey3]; first | rfl | decide) (by decide) rfl (fun ls hl => ?_)
      refine lv_goto (tgt := 45) hx hb dX9_bestOne_114 (by decide) ?_
      exact h _ _ hw _ (lv_sub hl [1, 2, 3, 4, 5, 0] rfl)
    · have h := h.2 c3
      refine lv_aload_n hx hb dX9_bestOne_60 rfl (lv_at hl 0 rfl) ?_
      refine lv_iload_n hx hb dX9_bestOne_61 rfl (lv_at hl 3 rfl) ?_
      refine lv_iload hx hb dX9_bestOne_62 (lv_at hl 5 rfl) ?_
      refine lv_iload hx hb dX9_bestOne_64 (lv_at hl 6 rfl) ?_
      refine done_i hw (my_runV (As := [.int x3, .int x5, .int x6]) (rest := []) C hw 15 9 (hF 15 (by decide)) rfl rfl (mt_X9_isAllowed l C.2.2.2.2.2.2.2 hF _ _ _ _ h) K_m_X9_241 K_i_X9_isAllowed K_v_X9_isAllowed K_n_X9 K_c_X9_isAllowed hy_X9_isAllowed ⟨Nat.le_of_ble_eq_true rfl, Nat.le_of_ble_eq_true rfl⟩ hl.1 rfl (Nat.le_of_ble_eq_true rfl) dX9_bestOne_66 ⟨Nat.zero_le _, Nat.zero_le _⟩) (fun r5 w6 H locs h hw => ?_)
      refine lv_if_ne (tgt := 75) hx hb dX9_bestOne_69 (by decide) (fun c4 => ?_) (fun c4 => ?_)
      · have h := h.2 c4
        refine lv_aload_n hx hb dX9_bestOne_75 rfl (lv_at hl 0 rfl) ?_
        refine g9_18 C hw (hF 15 (by decide)) K_f_X9_30 dX9_bestOne_76 ?_
        refine lv_aload_n hx hb dX9_bestOne_79 rfl (lv_at hl 0 rfl) ?_
        refine lv_iload_n hx hb dX9_bestOne_80 rfl (lv_at hl 3 rfl) ?_
        refine lv_aload_n hx hb dX9_bestOne_81 rfl (lv_at hl 0 rfl) ?_
        refine lv_iload_n hx hb dX9_bestOne_82 rfl (lv_at hl 3 rfl) ?_
        refine lv_iconst (v := 2) hx hb dX9_bestOne_83 (by decide) ?_
        refine done_i hw (my_runV (As := [.int x3, .int 2]) (rest := [.int x3, .ref (eA E 15), .ref (eA E 22)]) C hw 15 9 (hF 15 (by decide)) rfl rfl (mt_X9_of l C.2.2.2.2.2.2.2 hF _ _ _ h) K_m_X9_173 K_i_X9_of K_v_X9_of K_n_X9 K_c_X9_of hy_X9_of ⟨Nat.le_of_ble_eq_true rfl, Nat.le_of_ble_eq_true rfl⟩ hl.1 rfl (Nat.le_of_ble_eq_true rfl) dX9_bestOne_84 ⟨Nat.zero_le _, Nat.zero_le _⟩) (fun r6 w7 H locs h hw => ?_)
        refine lv_iload hx hb dX9_bestOne_87 (lv_at hl 5 rfl) ?_
        refine lv_iload hx hb dX9_bestOne_89 (lv_at hl 6 rfl) ?_
        refine done_i hw (my_runV (As := [.int x3, .int r6, .int x5, .int x6]) (rest := [.ref (eA E 22)]) C hw 15 9 (hF 15 (by decide)) rfl rfl (mt_X9_behind l C.2.2.2.2.2.2.2 hF _ _ _ _ _ h) K_m_X9_180 K_i_X9_behind K_v_X9_behind K_n_X9 K_c_X9_behind hy_X9_behind ⟨Nat.le_of_ble_eq_true rfl, Nat.le_of_ble_eq_true rfl⟩ hl.1 rfl (Nat.le_of_ble_eq_true rfl) dX9_bestOne_91 ⟨Nat.zero_le _, Nat.zero_le _⟩) (fun r7 w8 H locs h hw => ?_)
        obtain ⟨hi2, h⟩ := h
        refine r_iald C hw 22 8192 (hF 22 (by decide)) rfl hi2 dX9_bestOne_94 ?_
        refine lv_iload hx hb dX9_bestOne_95 (lv_at hl 4 rfl) ?_
        refine lv_icmp_ne (tgt := 102) hx hb dX9_bestOne_97 (by decide) (fun c5 => ?_) (fun c5 => ?_)
        · have h := h.2 c5
          obtain ⟨y4, ey4⟩ : ∃ y : Int32, y = x2 + 1 := ⟨_, rfl⟩
          have h := h y4 ey4
          refine lv_iinc (v := y4) (lv' := [(2, .int y4), (0, .ref (eA E 15)), (1, .int x1), (3, .int x3), (4, .int x4), (5, .int x5), (6, .int x6)]) hx hb dX9_bestOne_102 hl (k := 2) rfl (by rw [ey4]; first | rfl | decide) (by decide) rfl (fun ls hl => ?_)
          obtain ⟨y5, ey5⟩ : ∃ y : Int32, y = x6 + 1 := ⟨_, rfl⟩
          have h := h y5 ey5
          refine lv_iinc (v := y5) (lv' := [(6, .int y5), (2, .int y4), (0, .ref (eA E 15)), (1, .int x1), (3, .int x3), (4, .int x4), (5, .int x5)]) hx hb dX9_bestOne_105 hl (k := 6) rfl (by rw [ey5]; first | rfl | decide) (by decide) rfl (fun ls hl => ?_)
          refine lv_goto (tgt := 53) hx hb dX9_bestOne_108 (by decide) ?_
          exact h _ _ hw _ (lv_sub hl [2, 3, 1, 4, 5, 6, 0] rfl)
        · have h := h.1 c5
          refine lv_iload_n hx hb dX9_bestOne_100 rfl (lv_at hl 2 rfl) ?_
          rw [hQ]
          exact ret_i C hr hlk hw h dX9_bestOne_101
      · have h := h.1 c4
        refine lv_goto (tgt := 105) hx hb dX9_bestOne_72 (by decide) ?_
        obtain ⟨y6, ey6⟩ : ∃ y : Int32, y = x6 + 1 := ⟨_, rfl⟩
        have h := h y6 ey6
        refine lv_iinc (v := y6) (lv' := [(6, .int y6), (0, .ref (eA E 15)), (1, .int x1), (2, .int x2), (3, .int x3), (4, .int x4), (5, .int x5)]) hx hb dX9_bestOne_105 hl (k := 6) rfl (by rw [ey6]; first | rfl | decide) (by decide) rfl (fun ls hl => ?_)
        refine lv_goto (tgt := 53) hx hb dX9_bestOne_108 (by decide) ?_
        exact h _ _ hw _ (lv_sub hl [1, 2, 3, 4, 5, 6, 0] rfl)
  refine lv_aload_n hx hb dX9_bestOne_0 rfl (lv_at hl 0 rfl) ?_
  refine done_i hw (my_runV (As := []) (rest := []) C hw 15 9 (hF 15 (by decide)) rfl rfl (mt_X9_sumNow l C.2.2.2.2.2.2.2 hF _ h) K_m_X9_201 K_i_X9_sumNow K_v_X9_sumNow K_n_X9 K_c_X9_sumNow hy_X9_sumNow ⟨Nat.le_of_ble_eq_true rfl, Nat.le_of_ble_eq_true rfl⟩ hl.1 rfl (Nat.le_of_ble_eq_true rfl) dX9_bestOne_1 ⟨Nat.zero_le _, Nat.zero_le _⟩) (fun r1 w1 H locs h hw => ?_)
  refine lv_istore_n (lv' := [(1, .int r1), (0, .ref (eA E 15))]) hx hb dX9_bestOne_4 rfl hl (by decide) rfl (fun ls hl => ?_)
  refine lv_iconst (v := 0) hx hb dX9_bestOne_5 (by decide) ?_
  refine lv_istore_n (lv' := [(2, .int 0), (1, .int r1), (0, .ref (eA E 15))]) hx hb dX9_bestOne_6 rfl hl (by decide) rfl (fun ls hl => ?_)
  refine lv_iconst (v := 0) hx hb dX9_bestOne_7 (by decide) ?_
  refine lv_istore_n (lv' := [(3, .int 0), (2, .int 0), (1, .int r1), (0, .ref (eA E 15))]) hx hb dX9_bestOne_8 rfl hl (by decide) rfl (fun ls hl => ?_)
  exact h _ _ hw _ (lv_sub hl [3, 2, 1, 0] rfl)
theorem hy_X9_best : yX9_best.cls ≠ "java/lang/invoke/MethodHandle" ∧ yX9_best.cls ≠ "java/lang/invoke/VarHandle" ∧ (parseMethodDescriptor yX9_best.desc).map (fun d => d.parameters.length) = some 0 := by decide +kernel
def wp_X9_best (w : Wd) (Post : Int32 → Wd → Prop) : Prop :=
  wp_X9_bestOne (sI w 15 0 0) (fun r1 w1 => Post r1 w1)
set_option maxHeartbeats 4000000 in
set_option maxRecDepth 100000 in
theorem mt_X9_best (l : Launch) {E : En} (hI : Inj E) (hF : ∀ o, (15 ≤ o ∧ o < 25) → o ∈ eL E) (w : Wd) {Post : Int32 → Wd → Prop} (h : wp_X9_best w Post) : MI l E yX9_best cX9_best 1 (some .int) 8 187 [.ref (eA E 15)] w Post := by
  refine MG.intro hI (by decide +kernel) (Nat.le_of_ble_eq_true rfl) ?_
  intro p e s m args below meth c Q C hr hlk hQ hw ls hl
  have hx := C.1
  have hb := C.2.1
  have hl : lv_has ls 1 [(0, .ref (eA E 15))] := hl
  unfold wp_X9_best at h
  refine lv_aload_n hx hb dX9_best_0 rfl (lv_at hl 0 rfl) ?_
  refine lv_iconst (v := 0) hx hb dX9_best_1 (by decide) ?_
  refine p9_0 C hw (hF 15 (by decide)) K_f_X9_45 dX9_best_2 (fun H locs hw => ?_)
  refine lv_aload_n hx hb dX9_best_5 rfl (lv_at hl 0 rfl) ?_
  refine done_i hw (my_runV (As := []) (rest := []) C hw 15 9 (hF 15 (by decide)) rfl rfl (mt_X9_bestOne l C.2.2.2.2.2.2.2 hF _ h) K_m_X9_259 K_i_X9_bestOne K_v_X9_bestOne K_n_X9 K_c_X9_bestOne hy_X9_bestOne ⟨Nat.le_of_ble_eq_true rfl, Nat.le_of_ble_eq_true rfl⟩ hl.1 rfl (Nat.le_of_ble_eq_true rfl) dX9_best_6 ⟨Nat.zero_le _, Nat.zero_le _⟩) (fun r1 w1 H locs h hw => ?_)
  rw [hQ]
  exact ret_i C hr hlk hw h dX9_best_9
theorem hy_X9_shortens : yX9_shortens.cls ≠ "java/lang/invoke/MethodHandle" ∧ yX9_shortens.cls ≠ "java/lang/invoke/VarHandle" ∧ (parseMethodDescriptor yX9_shortens.desc).map (fun d => d.parameters.length) = some 1 := by decide +kernel
def wp_X9_shortens (w : Wd) (p1 : Int32) (Post : Wd → Prop) : Prop :=
  vp_in (p1 + 6) 140 ∧ (((gA w 18 ((p1 + 6).toNatClampNeg)) = 0 → (Post w)) ∧ (¬ (gA w 18 ((p1 + 6).toNatClampNeg)) = 0 → (∀ y1 : Int32, y1 = p1 + 6 → (vp_in y1 140 ∧ (∀ y2 : Int32, y2 = (gA w 18 y1.toNatClampNeg) - 1 → (vp_in y1 140 ∧ (vp_in (p1 + 6) 140 ∧ (((gA (sA w 18 y1.toNatClampNeg y2) 18 ((p1 + 6).toNatClampNeg)) = 0 → (vp_in (p1 + 5) 140 ∧ (Post (sA (sA w 18 y1.toNatClampNeg y2) 18 ((p1 + 5).toNatClampNeg) ((-1)))))) ∧ (¬ (gA (sA w 18 y1.toNatClampNeg y2) 18 ((p1 + 6).toNatClampNeg)) = 0 → (vp_in (p1 + 5) 140 ∧ (∀ y3 : Int32, y3 = gA (sA w 18 y1.toNatClampNeg y2) 18 ((p1 + 5).toNatClampNeg) → (vp_in (p1 + 5) 140 ∧ (Post (sA (sA w 18 y1.toNatClampNeg y2) 18 ((p1 + 5).toNatClampNeg) y3))))))))))))))
set_option maxHeartbeats 4000000 in
set_option maxRecDepth 100000 in
theorem mt_X9_shortens (l : Launch) {E : En} (hI : Inj E) (hF : ∀ o, (15 ≤ o ∧ o < 25) → o ∈ eL E) (w : Wd) (p1 : Int32) {Post : Wd → Prop} (h : wp_X9_shortens w p1 Post) : MV l E yX9_shortens cX9_shortens 2 none 0 0 [.ref (eA E 15), .int p1] w Post := by
  refine MG.intro hI (by decide +kernel) (Nat.le_of_ble_eq_true rfl) ?_
  intro p e s m args below meth c Q C hr hlk hQ hw ls hl
  have hx := C.1
  have hb := C.2.1
  have hl : lv_has ls 2 [(0, .ref (eA E 15)), (1, .int p1)] := hl
  unfold wp_X9_shortens at h
  refine lv_aload_n hx hb dX9_shortens_0 rfl (lv_at hl 0 rfl) ?_
  refine g9_13 C hw (hF 15 (by decide)) K_f_X9_17 dX9_shortens_1 ?_
  refine lv_iload_n hx hb dX9_shortens_4 rfl (lv_at hl 1 rfl) ?_
  refine lv_bipush (v := 6) hx hb dX9_shortens_5 (by decide) ?_
  refine lv_iadd hx hb dX9_shortens_7 ?_
  obtain ⟨hi1, h⟩ := h
  refine r_iald C hw 18 140 (hF 18 (by decide)) rfl hi1 dX9_shortens_8 ?_
  refine lv_if_ne (tgt := 13) hx hb dX9_shortens_9 (by decide) (fun c1 => ?_) (fun c1 => ?_)
  · have h := h.2 c1
    refine lv_aload_n hx hb dX9_shortens_13 rfl (lv_at hl 0 rfl) ?_
    refine g9_13 C hw (hF 15 (by decide)) K_f_X9_17 dX9_shortens_14 ?_
    refine lv_iload_n hx hb dX9_shortens_17 rfl (lv_at hl 1 rfl) ?_
    refine lv_bipush (v := 6) hx hb dX9_shortens_18 (by decide) ?_
    refine lv_iadd hx hb dX9_shortens_20 ?_
    refine lv_topi (fun y1 ey1 => ?_)
    have h := h y1 ey1
    refine lv_dup2_11 hx hb dX9_shortens_21 rfl rfl ?_
    obtain ⟨hi2, h⟩ := h
    refine r_iald C hw 18 140 (hF 18 (by decide)) rfl hi2 dX9_shortens_22 ?_
    refine lv_iconst (v := 1) hx hb dX9_shortens_23 (by decide) ?_
    refine lv_isub hx hb dX9_shortens_24 ?_
    refine lv_topi (fun y2 ey2 => ?_)
    have h := h y2 ey2
    obtain ⟨hi3, h⟩ := h
    refine r_iast C hw 18 140 (hF 18 (by decide)) (fun _ => rfl) hi3 dX9_shortens_25 (fun H locs hw => ?_)
    refine lv_aload_n hx hb dX9_shortens_26 rfl (lv_at hl 0 rfl) ?_
    refine g9_13 C hw (hF 15 (by decide)) K_f_X9_17 dX9_shortens_27 ?_
    refine lv_iload_n hx hb dX9_shortens_30 rfl (lv_at hl 1 rfl) ?_
    refine lv_iconst (v := 5) hx hb dX9_shortens_31 (by decide) ?_
    refine lv_iadd hx hb dX9_shortens_32 ?_
    refine lv_aload_n hx hb dX9_shortens_33 rfl (lv_at hl 0 rfl) ?_
    refine g9_13 C hw (hF 15 (by decide)) K_f_X9_17 dX9_shortens_34 ?_
    refine lv_iload_n hx hb dX9_shortens_37 rfl (lv_at hl 1 rfl) ?_
    refine lv_bipush (v := 6) hx hb dX9_shortens_38 (by decide) ?_
    refine lv_iadd hx hb dX9_shortens_40 ?_
    obtain ⟨hi4, h⟩ := h
    refine r_iald C hw 18 140 (hF 18 (by decide)) rfl hi4 dX9_shortens_41 ?_
    refine lv_if_ne (tgt := 49) hx hb dX9_shortens_42 (by decide) (fun c2 => ?_) (fun c2 => ?_)
    · have h := h.2 c2
      refine lv_aload_n hx hb dX9_shortens_49 rfl (lv_at hl 0 rfl) ?_
      refine g9_13 C hw (hF 15 (by decide)) K_f_X9_17 dX9_shortens_50 ?_
      refine lv_iload_n hx hb dX9_shortens_53 rfl (lv_at hl 1 rfl) ?_
      refine lv_iconst (v := 5) hx hb dX9_shortens_54 (by decide) ?_
      refine lv_iadd hx hb dX9_shortens_55 ?_
      obtain ⟨hi5, h⟩ := h
      refine r_iald C hw 18 140 (hF 18 (by decide)) rfl hi5 dX9_shortens_56 ?_
      refine lv_topi (fun y3 ey3 => ?_)
      have h := h y3 ey3
      obtain ⟨hi6, h⟩ := h
      refine r_iast C hw 18 140 (hF 18 (by decide)) (fun _ => rfl) hi6 dX9_shortens_57 (fun H locs hw => ?_)
      rw [hQ]
      exact ret_v C hr hlk hw h dX9_shortens_58
    · have h := h.1 c2
      refine lv_iconst (v := (-1)) hx hb dX9_shortens_45 (by decide) ?_
      refine lv_goto (tgt := 57) hx hb dX9_shortens_46 (by decide) ?_
      obtain ⟨hi7, h⟩ := h
      refine r_iast C hw 18 140 (hF 18 (by decide)) (fun _ => rfl) hi7 dX9_shortens_57 (fun H locs hw => ?_)
      rw [hQ]
      exact ret_v C hr hlk hw h dX9_shortens_58
  · have h := h.1 c1
    rw [hQ]
    exact ret_v C hr hlk hw h dX9_shortens_12
theorem hy_X9_acts : yX9_acts.cls ≠ "java/lang/invoke/MethodHandle" ∧ yX9_acts.cls ≠ "java/lang/invoke/VarHandle" ∧ (parseMethodDescriptor yX9_acts.desc).map (fun d => d.parameters.length) = some 4 := by decide +kernel
def wp_X9_acts (w : Wd) (p1 : Int32) (p2 : Int32) (p3 : Int32) (p4 : Int32) (Post : Wd → Prop) : Prop :=
  ∀ J94 : Int32 → Wd → Prop, (∀ (x6 : Int32) (w : Wd), (wp_X9_ladders w (fun r1 w1 => (r1 ≤ x6 → (∀ y4 : Int32, y4 = 1 - (gA w1 18 55) → (Post (sA w1 18 55 y4)))) ∧ (¬ r1 ≤ x6 → (wp_X9_at w1 x6 (fun r2 w2 => wp_X9_shortens w2 r2 (fun w3 => ∀ y5 : Int32, y5 = x6 + 1 → (J94 y5 w3))))))) → J94 x6 w) →
  ∀ y1 : Int32, y1 = 60 + (5 * ((gA w 18 56) - (gA w 18 56) / 16 * 16)) → (vp_in y1 140 ∧ (∀ y2 : Int32, y2 = gA (sA w 18 y1.toNatClampNeg p1) 18 55 → (vp_in (y1 + 1) 140 ∧ (vp_in (y1 + 2) 140 ∧ (vp_in (y1 + 3) 140 ∧ (vp_in (y1 + 4) 140 ∧ (∀ y3 : Int32, y3 = (gA (sA (sA (sA (sA (sA w 18 y1.toNatClampNeg p1) 18 ((y1 + 1).toNatClampNeg) y2) 18 ((y1 + 2).toNatClampNeg) p2) 18 ((y1 + 3).toNatClampNeg) p3) 18 ((y1 + 4).toNatClampNeg) p4) 18 56) + 1 → (J94 0 (sA (sA (sA (sA (sA (sA (sA w 18 y1.toNatClampNeg p1) 18 ((y1 + 1).toNatClampNeg) y2) 18 ((y1 + 2).toNatClampNeg) p2) 18 ((y1 + 3).toNatClampNeg) p3) 18 ((y1 + 4).toNatClampNeg) p4) 18 56 y3) 18 57 ((-1)))))))))))
set_option maxHeartbeats 4000000 in
set_option maxRecDepth 100000 in
theorem mt_X9_acts (l : Launch) {E : En} (hI : Inj E) (hF : ∀ o, (15 ≤ o ∧ o < 25) → o ∈ eL E) (w : Wd) (p1 : Int32) (p2 : Int32) (p3 : Int32) (p4 : Int32) {Post : Wd → Prop} (h : wp_X9_acts w p1 p2 p3 p4 Post) : MV l E yX9_acts cX9_acts 7 none 1 21 [.ref (eA E 15), .int p1, .int p2, .int p3, .int p4] w Post := by
  refine MG.intro hI (by decide +kernel) (Nat.le_of_ble_eq_true rfl) ?_
  intro p e s m args below meth c Q C hr hlk hQ hw ls hl
  have hx := C.1
  have hb := C.2.1
  have hl : lv_has ls 7 [(0, .ref (eA E 15)), (1, .int p1), (2, .int p2), (3, .int p3), (4, .int p4)] := hl
  unfold wp_X9_acts at h
  have h := h (fun x6 w => Jp E p l e (Rm 1 21) s m args below meth c Q 7 94 [(0, .ref (eA E 15)), (6, .int x6)] w)
  have h := h ?_
  rotate_left
  · intro x6 w h H locs hw ls hl
    refine lv_iload hx hb dX9_acts_94 (lv_at hl 1 rfl) ?_
    refine lv_aload_n hx hb dX9_acts_96 rfl (lv_at hl 0 rfl) ?_
    refine done_i hw (my_runV (As := []) (rest := [.int x6]) C hw 15 9 (hF 15 (by decide)) rfl rfl (mt_X9_ladders l C.2.2.2.2.2.2.2 hF _ h) K_m_X9_163 K_i_X9_ladders K_v_X9_ladders K_n_X9 K_c_X9_ladders hy_X9_ladders ⟨Nat.le_of_ble_eq_true rfl, Nat.le_of_ble_eq_true rfl⟩ hl.1 rfl (Nat.le_of_ble_eq_true rfl) dX9_acts_97 ⟨Nat.zero_le _, Nat.zero_le _⟩) (fun r1 w1 H locs h hw => ?_)
    refine lv_icmp_ge (tgt := 118) hx hb dX9_acts_100 (by decide) (fun c1 => ?_) (fun c1 => ?_)
    · have h := h.1 c1
      refine lv_aload_n hx hb dX9_acts_118 rfl (lv_at hl 0 rfl) ?_
      refine g9_13 C hw (hF 15 (by decide)) K_f_X9_17 dX9_acts_119 ?_
      refine lv_bipush (v := 55) hx hb dX9_acts_122 (by decide) ?_
      refine lv_iconst (v := 1) hx hb dX9_acts_124 (by decide) ?_
      refine lv_aload_n hx hb dX9_acts_125 rfl (lv_at hl 0 rfl) ?_
      refine g9_13 C hw (hF 15 (by decide)) K_f_X9_17 dX9_acts_126 ?_
      refine lv_bipush (v := 55) hx hb dX9_acts_129 (by decide) ?_
      refine r_iald C hw 18 140 (hF 18 (by decide)) rfl (vp_lit (by decide)) dX9_acts_131 ?_
      refine lv_isub hx hb dX9_acts_132 ?_
      refine lv_topi (fun y4 ey4 => ?_)
      have h := h y4 ey4
      refine r_iast C hw 18 140 (hF 18 (by decide)) (fun _ => rfl) (vp_lit (by decide)) dX9_acts_133 (fun H locs hw => ?_)
      rw [hQ]
      exact ret_v C hr hlk hw h dX9_acts_134
    · have h := h.2 c1
      refine lv_aload_n hx hb dX9_acts_103 rfl (lv_at hl 0 rfl) ?_
      refine lv_iload hx hb dX9_acts_104 (lv_at hl 1 rfl) ?_
      refine done_i hw (my_runS (As := [.int x6]) (rest := [.ref (eA E 15)]) C hw (mt_X9_at l C.2.2.2.2.2.2.2 hF _ _ h) K_m_X9_170 K_s_X9_at K_n_X9 K_c_X9_at hy_X9_at ⟨Nat.le_of_ble_eq_true rfl, Nat.le_of_ble_eq_true rfl⟩ hl.1 rfl (Nat.le_of_ble_eq_true rfl) dX9_acts_106 ⟨Nat.zero_le _, Nat.zero_le _⟩) (fun r2 w2 H locs h hw => ?_)
      refine done_v hw (my_runV (As := [.int r2]) (rest := []) C hw 15 9 (hF 15 (by decide)) rfl rfl (mt_X9_shortens l C.2.2.2.2.2.2.2 hF _ _ h) K_m_X9_262 K_i_X9_shortens K_v_X9_shortens K_n_X9 K_c_X9_shortens hy_X9_shortens ⟨Nat.le_of_ble_eq_true rfl, Nat.le_of_ble_eq_true rfl⟩ hl.1 rfl (Nat.le_of_ble_eq_true rfl) dX9_acts_109 ⟨Nat.zero_le _, Nat.zero_le _⟩) (fun w3 H locs h hw => ?_)
      obtain ⟨y5, ey5⟩ : ∃ y : Int32, y = x6 + 1 := ⟨_, rfl⟩
      have h := h y5 ey5
      refine lv_iinc (v := y5) (lv' := [(6, .int y5), (0, .ref (eA E 15))]) hx hb dX9_acts_112 hl (k := 1) rfl (by rw [ey5]; first | rfl | decide) (by decide) rfl (fun ls hl => ?_)
      refine lv_goto (tgt := 94) hx hb dX9_acts_115 (by decide) ?_
      exact h _ _ hw _ (lv_sub hl [1, 0] rfl)
  refine lv_bipush (v := 60) hx hb dX9_acts_0 (by decide) ?_
  refine lv_iconst (v := 5) hx hb dX9_acts_2 (by decide) ?_
  refine lv_aload_n hx hb dX9_acts_3 rfl (lv_at hl 0 rfl) ?_
  refine g9_13 C hw (hF 15 (by decide)) K_f_X9_17 dX9_acts_4 ?_
  refine lv_bipush (v := 56) hx hb dX9_acts_7 (by decide) ?_
  refine r_iald C hw 18 140 (hF 18 (by decide)) rfl (vp_lit (by decide)) dX9_acts_9 ?_
  refine lv_bipush (v := 16) hx hb dX9_acts_10 (by decide) ?_
  refine lv_irem hx hb dX9_acts_12 (by decide) ?_
  refine lv_imul hx hb dX9_acts_13 ?_
  refine lv_iadd hx hb dX9_acts_14 ?_
  refine lv_topi (fun y1 ey1 => ?_)
  have h := h y1 ey1
  refine lv_istore (lv' := [(5, .int y1), (0, .ref (eA E 15)), (1, .int p1), (2, .int p2), (3, .int p3), (4, .int p4)]) hx hb dX9_acts_15 hl (by decide) rfl (fun ls hl => ?_)
  refine lv_aload_n hx hb dX9_acts_17 rfl (lv_at hl 1 rfl) ?_
  refine g9_13 C hw (hF 15 (by decide)) K_f_X9_17 dX9_acts_18 ?_
  refine lv_iload hx hb dX9_acts_21 (lv_at hl 0 rfl) ?_
  refine lv_iload_n hx hb dX9_acts_23 rfl (lv_at hl 2 rfl) ?_
  obtain ⟨hi2, h⟩ := h
  refine r_iast C hw 18 140 (hF 18 (by decide)) (fun _ => rfl) hi2 dX9_acts_24 (fun H locs hw => ?_)
  refine lv_aload_n hx hb dX9_acts_25 rfl (lv_at hl 1 rfl) ?_
  refine g9_13 C hw (hF 15 (by decide)) K_f_X9_17 dX9_acts_26 ?_
  refine lv_iload hx hb dX9_acts_29 (lv_at hl 0 rfl) ?_
  refine lv_iconst (v := 1) hx hb dX9_acts_31 (by decide) ?_
  refine lv_iadd hx hb dX9_acts_32 ?_
  refine lv_aload_n hx hb dX9_acts_33 rfl (lv_at hl 1 rfl) ?_
  refine g9_13 C hw (hF 15 (by decide)) K_f_X9_17 dX9_acts_34 ?_
  refine lv_bipush (v := 55) hx hb dX9_acts_37 (by decide) ?_
  refine r_iald C hw 18 140 (hF 18 (by decide)) rfl (vp_lit (by decide)) dX9_acts_39 ?_
  refine lv_topi (fun y2 ey2 => ?_)
  have h := h y2 ey2
  obtain ⟨hi4, h⟩ := h
  refine r_iast C hw 18 140 (hF 18 (by decide)) (fun _ => rfl) hi4 dX9_acts_40 (fun H locs hw => ?_)
  refine lv_aload_n hx hb dX9_acts_41 rfl (lv_at hl 1 rfl) ?_
  refine g9_13 C hw (hF 15 (by decide)) K_f_X9_17 dX9_acts_42 ?_
  refine lv_iload hx hb dX9_acts_45 (lv_at hl 0 rfl) ?_
  refine lv_iconst (v := 2) hx hb dX9_acts_47 (by decide) ?_
  refine lv_iadd hx hb dX9_acts_48 ?_
  refine lv_iload_n hx hb dX9_acts_49 rfl (lv_at hl 3 rfl) ?_
  obtain ⟨hi5, h⟩ := h
  refine r_iast C hw 18 140 (hF 18 (by decide)) (fun _ => rfl) hi5 dX9_acts_50 (fun H locs hw => ?_)
  refine lv_aload_n hx hb dX9_acts_51 rfl (lv_at hl 1 rfl) ?_
  refine g9_13 C hw (hF 15 (by decide)) K_f_X9_17 dX9_acts_52 ?_
  refine lv_iload hx hb dX9_acts_55 (lv_at hl 0 rfl) ?_
  refine lv_iconst (v := 3) hx hb dX9_acts_57 (by decide) ?_
  refine lv_iadd hx hb dX9_acts_58 ?_
  refine lv_iload_n hx hb dX9_acts_59 rfl (lv_at hl 4 rfl) ?_
  obtain ⟨hi6, h⟩ := h
  refine r_iast C hw 18 140 (hF 18 (by decide)) (fun _ => rfl) hi6 dX9_acts_60 (fun H locs hw => ?_)
  refine lv_aload_n hx hb dX9_acts_61 rfl (lv_at hl 1 rfl) ?_
  refine g9_13 C hw (hF 15 (by decide)) K_f_X9_17 dX9_acts_62 ?_
  refine lv_iload hx hb dX9_acts_65 (lv_at hl 0 rfl) ?_
  refine lv_iconst (v := 4) hx hb dX9_acts_67 (by decide) ?_
  refine lv_iadd hx hb dX9_acts_68 ?_
  refine lv_iload hx hb dX9_acts_69 (lv_at hl 5 rfl) ?_
  obtain ⟨hi7, h⟩ := h
  refine r_iast C hw 18 140 (hF 18 (by decide)) (fun _ => rfl) hi7 dX9_acts_71 (fun H locs hw => ?_)
  refine lv_aload_n hx hb dX9_acts_72 rfl (lv_at hl 1 rfl) ?_
  refine g9_13 C hw (hF 15 (by decide)) K_f_X9_17 dX9_acts_73 ?_
  refine lv_bipush (v := 56) hx hb dX9_acts_76 (by decide) ?_
  refine lv_dup2_11 hx hb dX9_acts_78 rfl rfl ?_
  refine r_iald C hw 18 140 (hF 18 (by decide)) rfl (vp_lit (by decide)) dX9_acts_79 ?_
  refine lv_iconst (v := 1) hx hb dX9_acts_80 (by decide) ?_
  refine lv_iadd hx hb dX9_acts_81 ?_
  refine lv_topi (fun y3 ey3 => ?_)
  have h := h y3 ey3
  refine r_iast C hw 18 140 (hF 18 (by decide)) (fun _ => rfl) (vp_lit (by decide)) dX9_acts_82 (fun H locs hw => ?_)
  refine lv_aload_n hx hb dX9_acts_83 rfl (lv_at hl 1 rfl) ?_
  refine g9_13 C hw (hF 15 (by decide)) K_f_X9_17 dX9_acts_84 ?_
  refine lv_bipush (v := 57) hx hb dX9_acts_87 (by decide) ?_
  refine lv_iconst (v := (-1)) hx hb dX9_acts_89 (by decide) ?_
  refine r_iast C hw 18 140 (hF 18 (by decide)) (fun _ => rfl) (vp_lit (by decide)) dX9_acts_90 (fun H locs hw => ?_)
  refine lv_iconst (v := 0) hx hb dX9_acts_91 (by decide) ?_
  refine lv_istore (lv' := [(6, .int 0), (5, .int y1), (0, .ref (eA E 15)), (1, .int p1), (2, .int p2), (3, .int p3), (4, .int p4)]) hx hb dX9_acts_92 hl (by decide) rfl (fun ls hl => ?_)
  exact h _ _ hw _ (lv_sub hl [2, 0] rfl)
theorem hy_X9_steps : yX9_steps.cls ≠ "java/lang/invoke/MethodHandle" ∧ yX9_steps.cls ≠ "java/lang/invoke/VarHandle" ∧ (parseMethodDescriptor yX9_steps.desc).map (fun d => d.parameters.length) = some 3 := by decide +kernel
def wp_X9_steps (w : Wd) (p1 : Int32) (p2 : Int32) (p3 : Int32) (Post : Wd → Prop) : Prop :=
  ∀ y1 : Int32, y1 = 43 + (6 * (gA w 18 55)) → (∀ y2 : Int32, y2 = y1 + 3 → (vp_in y2 140 ∧ (∀ y3 : Int32, y3 = (gA w 18 y2.toNatClampNeg) + 1 → (vp_in y2 140 ∧ (∀ y4 : Int32, y4 = y1 + 4 → (vp_in y4 140 ∧ (∀ y5 : Int32, y5 = (gA (sA w 18 y2.toNatClampNeg y3) 18 y4.toNatClampNeg) + p3 → (vp_in y4 140 ∧ (wp_X9_of (sA (sA w 18 y2.toNatClampNeg y3) 18 y4.toNatClampNeg y5) p1 2 (fun r1 w1 => wp_X9_behind w1 p1 r1 p2 p3 (fun r2 w2 => wp_X9_at w2 p1 (fun r3 w3 => vp_in (r3 + 2) 140 ∧ (wp_X9_acts (sA w3 18 ((r3 + 2).toNatClampNeg) r2) 0 p1 p2 p3 (fun w4 => Post w4))))))))))))))
set_option maxHeartbeats 4000000 in
set_option maxRecDepth 100000 in
theorem mt_X9_steps (l : Launch) {E : En} (hI : Inj E) (hF : ∀ o, (15 ≤ o ∧ o < 25) → o ∈ eL E) (w : Wd) (p1 : Int32) (p2 : Int32) (p3 : Int32) {Post : Wd → Prop} (h : wp_X9_steps w p1 p2 p3 Post) : MV l E yX9_steps cX9_steps 6 none 3 68 [.ref (eA E 15), .int p1, .int p2, .int p3] w Post := by
  refine MG.intro hI (by decide +kernel) (Nat.le_of_ble_eq_true rfl) ?_
  intro p e s m args below meth c Q C hr hlk hQ hw ls hl
  have hx := C.1
  have hb := C.2.1
  have hl : lv_has ls 6 [(0, .ref (eA E 15)), (1, .int p1), (2, .int p2), (3, .int p3)] := hl
  unfold wp_X9_steps at h
  refine lv_bipush (v := 43) hx hb dX9_steps_0 (by decide) ?_
  refine lv_bipush (v := 6) hx hb dX9_steps_2 (by decide) ?_
  refine lv_aload_n hx hb dX9_steps_4 rfl (lv_at hl 0 rfl) ?_
  refine g9_13 C hw (hF 15 (by decide)) K_f_X9_17 dX9_steps_5 ?_
  refine lv_bipush (v := 55) hx hb dX9_steps_8 (by decide) ?_
  refine r_iald C hw 18 140 (hF 18 (by decide)) rfl (vp_lit (by decide)) dX9_steps_10 ?_
  refine lv_imul hx hb dX9_steps_11 ?_
  refine lv_iadd hx hb dX9_steps_12 ?_
  refine lv_topi (fun y1 ey1 => ?_)
  have h := h y1 ey1
  refine lv_istore (lv' := [(4, .int y1), (0, .ref (eA E 15)), (1, .int p1), (2, .int p2), (3, .int p3)]) hx hb dX9_steps_13 hl (by decide) rfl (fun ls hl => ?_)
  refine lv_aload_n hx hb dX9_steps_15 rfl (lv_at hl 1 rfl) ?_
  refine g9_13 C hw (hF 15 (by decide)) K_f_X9_17 dX9_steps_16 ?_
  refine lv_iload hx hb dX9_steps_19 (lv_at hl 0 rfl) ?_
  refine lv_iconst (v := 3) hx hb dX9_steps_21 (by decide) ?_
  refine lv_iadd hx hb dX9_steps_22 ?_
  refine lv_topi (fun y2 ey2 => ?_)
  have h := h y2 ey2
  refine lv_dup2_11 hx hb dX9_steps_23 rfl rfl ?_
  obtain ⟨hi2, h⟩ := h
  refine r_iald C hw 18 140 (hF 18 (by decide)) rfl hi2 dX9_steps_24 ?_
  refine lv_iconst (v := 1) hx hb dX9_steps_25 (by decide) ?_
  refine lv_iadd hx hb dX9_steps_26 ?_
  refine lv_topi (fun y3 ey3 => ?_)
  have h := h y3 ey3
  obtain ⟨hi3, h⟩ := h
  refine r_iast C hw 18 140 (hF 18 (by decide)) (fun _ => rfl) hi3 dX9_steps_27 (fun H locs hw => ?_)
  refine lv_aload_n hx hb dX9_steps_28 rfl (lv_at hl 1 rfl) ?_
  refine g9_13 C hw (hF 15 (by decide)) K_f_X9_17 dX9_steps_29 ?_
  refine lv_iload hx hb dX9_steps_32 (lv_at hl 0 rfl) ?_
  refine lv_iconst (v := 4) hx hb dX9_steps_34 (by decide) ?_
  refine lv_iadd hx hb dX9_steps_35 ?_
  refine lv_topi (fun y4 ey4 => ?_)
  have h := h y4 ey4
  refine lv_dup2_11 hx hb dX9_steps_36 rfl rfl ?_
  obtain ⟨hi4, h⟩ := h
  refine r_iald C hw 18 140 (hF 18 (by decide)) rfl hi4 dX9_steps_37 ?_
  refine lv_iload_n hx hb dX9_steps_38 rfl (lv_at hl 4 rfl) ?_
  refine lv_iadd hx hb dX9_steps_39 ?_
  refine lv_topi (fun y5 ey5 => ?_)
  have h := h y5 ey5
  obtain ⟨hi5, h⟩ := h
  refine r_iast C hw 18 140 (hF 18 (by decide)) (fun _ => rfl) hi5 dX9_steps_40 (fun H locs hw => ?_)
  refine lv_aload_n hx hb dX9_steps_41 rfl (lv_at hl 1 rfl) ?_
  refine lv_iload_n hx hb dX9_steps_42 rfl (lv_at hl 2 rfl) ?_
  refine lv_aload_n hx hb dX9_steps_43 rfl (lv_at hl 1 rfl) ?_
  refine lv_iload_n hx hb dX9_steps_44 rfl (lv_at hl 2 rfl) ?_
  refine lv_iconst (v := 2) hx hb dX9_steps_45 (by decide) ?_
  refine done_i hw (my_runV (As := [.int p1, .int 2]) (rest := [.int p1, .ref (eA E 15)]) C hw 15 9 (hF 15 (by decide)) rfl rfl (mt_X9_of l C.2.2.2.2.2.2.2 hF _ _ _ h) K_m_X9_173 K_i_X9_of K_v_X9_of K_n_X9 K_c_X9_of hy_X9_of ⟨Nat.le_of_ble_eq_true rfl, Nat.le_of_ble_eq_true rfl⟩ hl.1 rfl (Nat.le_of_ble_eq_true rfl) dX9_steps_46 ⟨Nat.zero_le _, Nat.zero_le _⟩) (fun r1 w1 H locs h hw => ?_)
  refine lv_iload_n hx hb dX9_steps_49 rfl (lv_at hl 3 rfl) ?_
  refine lv_iload_n hx hb dX9_steps_50 rfl (lv_at hl 4 rfl) ?_
  refine done_i hw (my_runV (As := [.int p1, .int r1, .int p2, .int p3]) (rest := []) C hw 15 9 (hF 15 (by decide)) rfl rfl (mt_X9_behind l C.2.2.2.2.2.2.2 hF _ _ _ _ _ h) K_m_X9_180 K_i_X9_behind K_v_X9_behind K_n_X9 K_c_X9_behind hy_X9_behind ⟨Nat.le_of_ble_eq_true rfl, Nat.le_of_ble_eq_true rfl⟩ hl.1 rfl (Nat.le_of_ble_eq_true rfl) dX9_steps_51 ⟨Nat.zero_le _, Nat.zero_le _⟩) (fun r2 w2 H locs h hw => ?_)
  refine lv_istore (lv' := [(5, .int r2), (4, .int y1), (0, .ref (eA E 15)), (1, .int p1), (2, .int p2), (3, .int p3)]) hx hb dX9_steps_54 hl (by decide) rfl (fun ls hl => ?_)
  refine lv_aload_n hx hb dX9_steps_56 rfl (lv_at hl 2 rfl) ?_
  refine g9_13 C hw (hF 15 (by decide)) K_f_X9_17 dX9_steps_57 ?_
  refine lv_iload_n hx hb dX9_steps_60 rfl (lv_at hl 3 rfl) ?_
  refine done_i hw (my_runS (As := [.int p1]) (rest := [.ref (eA E 18)]) C hw (mt_X9_at l C.2.2.2.2.2.2.2 hF _ _ h) K_m_X9_170 K_s_X9_at K_n_X9 K_c_X9_at hy_X9_at ⟨Nat.le_of_ble_eq_true rfl, Nat.le_of_ble_eq_true rfl⟩ hl.1 rfl (Nat.le_of_ble_eq_true rfl) dX9_steps_61 ⟨Nat.zero_le _, Nat.zero_le _⟩) (fun r3 w3 H locs h hw => ?_)
  refine lv_iconst (v := 2) hx hb dX9_steps_64 (by decide) ?_
  refine lv_iadd hx hb dX9_steps_65 ?_
  refine lv_iload hx hb dX9_steps_66 (lv_at hl 0 rfl) ?_
  obtain ⟨hi6, h⟩ := h
  refine r_iast C hw 18 140 (hF 18 (by decide)) (fun _ => rfl) hi6 dX9_steps_68 (fun H locs hw => ?_)
  refine lv_aload_n hx hb dX9_steps_69 rfl (lv_at hl 2 rfl) ?_
  refine lv_iconst (v := 0) hx hb dX9_steps_70 (by decide) ?_
  refine lv_iload_n hx hb dX9_steps_71 rfl (lv_at hl 3 rfl) ?_
  refine lv_iload_n hx hb dX9_steps_72 rfl (lv_at hl 4 rfl) ?_
  refine lv_iload_n hx hb dX9_steps_73 rfl (lv_at hl 5 rfl) ?_
  refine done_v hw (my_runV (As := [.int 0, .int p1, .int p2, .int p3]) (rest := []) C hw 15 9 (hF 15 (by decide)) rfl rfl (mt_X9_acts l C.2.2.2.2.2.2.2 hF _ _ _ _ _ h) K_m_X9_265 K_i_X9_acts K_v_X9_acts K_n_X9 K_c_X9_acts hy_X9_acts ⟨Nat.le_of_ble_eq_true rfl, Nat.le_of_ble_eq_true rfl⟩ hl.1 rfl (Nat.le_of_ble_eq_true rfl) dX9_steps_74 ⟨Nat.zero_le _, Nat.zero_le _⟩) (fun w4 H locs h hw => ?_)
  rw [hQ]
  exact ret_v C hr hlk hw h dX9_steps_77
theorem hy_X9_step : yX9_step.cls ≠ "java/lang/invoke/MethodHandle" ∧ yX9_step.cls ≠ "java/lang/invoke/VarHandle" ∧ (parseMethodDescriptor yX9_step.desc).map (fun d => d.parameters.length) = some 3 := by decide +kernel
def wp_X9_step (w : Wd) (p1 : Int32) (p2 : Int32) (p3 : Int32) (Post : Int32 → Wd → Prop) : Prop :=
  wp_X9_whyStep w p1 p2 p3 (fun r1 w1 => (r1 = 0 → (((gI (sI w1 15 0 0) 15 0) ≤ 0 → (wp_X9_keep (sI w1 15 0 0) (fun w5 => wp_X9_steps w5 p1 p2 p3 (fun w6 => wp_X9_sumNow w6 (fun r3 w7 => Post r3 w7))))) ∧ (¬ (gI (sI w1 15 0 0) 15 0) ≤ 0 → (Post 0 (sI w1 15 0 0))))) ∧ (¬ r1 = 0 → (((gI (sI w1 15 0 1) 15 0) ≤ 0 → (wp_X9_keep (sI w1 15 0 1) (fun w2 => wp_X9_steps w2 p1 p2 p3 (fun w3 => wp_X9_sumNow w3 (fun r2 w4 => Post r2 w4))))) ∧ (¬ (gI (sI w1 15 0 1) 15 0) ≤ 0 → (Post 0 (sI w1 15 0 1))))))
set_option maxHeartbeats 4000000 in
set_option maxRecDepth 100000 in
theorem mt_X9_step (l : Launch) {E : En} (hI : Inj E) (hF : ∀ o, (15 ≤ o ∧ o < 25) → o ∈ eL E) (w : Wd) (p1 : Int32) (p2 : Int32) (p3 : Int32) {Post : Int32 → Wd → Prop} (h : wp_X9_step w p1 p2 p3 Post) : MI l E yX9_step cX9_step 4 (some .int) 7 161 [.ref (eA E 15), .int p1, .int p2, .int p3] w Post := by
  refine MG.intro hI (by decide +kernel) (Nat.le_of_ble_eq_true rfl) ?_
  intro p e s m args below meth c Q C hr hlk hQ hw ls hl
  have hx := C.1
  have hb := C.2.1
  have hl : lv_has ls 4 [(0, .ref (eA E 15)), (1, .int p1), (2, .int p2), (3, .int p3)] := hl
  unfold wp_X9_step at h
  refine lv_aload_n hx hb dX9_step_0 rfl (lv_at hl 0 rfl) ?_
  refine lv_aload_n hx hb dX9_step_1 rfl (lv_at hl 0 rfl) ?_
  refine lv_iload_n hx hb dX9_step_2 rfl (lv_at hl 1 rfl) ?_
  refine lv_iload_n hx hb dX9_step_3 rfl (lv_at hl 2 rfl) ?_
  refine lv_iload_n hx hb dX9_step_4 rfl (lv_at hl 3 rfl) ?_
  refine done_i hw (my_runV (As := [.int p1, .int p2, .int p3]) (rest := [.ref (eA E 15)]) C hw 15 9 (hF 15 (by decide)) rfl rfl (mt_X9_whyStep l C.2.2.2.2.2.2.2 hF _ _ _ _ h) K_m_X9_224 K_i_X9_whyStep K_v_X9_whyStep K_n_X9 K_c_X9_whyStep hy_X9_whyStep ⟨Nat.le_of_ble_eq_true rfl, Nat.le_of_ble_eq_true rfl⟩ hl.1 rfl (Nat.le_of_ble_eq_true rfl) dX9_step_5 ⟨Nat.zero_le _, Nat.zero_le _⟩) (fun r1 w1 H locs h hw => ?_)
  refine lv_if_ne (tgt := 15) hx hb dX9_step_8 (by decide) (fun c1 => ?_) (fun c1 => ?_)
  · have h := h.2 c1
    refine lv_iconst (v := 1) hx hb dX9_step_15 (by decide) ?_
    refine p9_0 C hw (hF 15 (by decide)) K_f_X9_45 dX9_step_16 (fun H locs hw => ?_)
    refine lv_aload_n hx hb dX9_step_19 rfl (lv_at hl 0 rfl) ?_
    refine g9_0 C hw (hF 15 (by decide)) K_f_X9_45 dX9_step_20 ?_
    refine lv_if_le (tgt := 28) hx hb dX9_step_23 (by decide) (fun c2 => ?_) (fun c2 => ?_)
    · have h := h.1 c2
      refine lv_aload_n hx hb dX9_step_28 rfl (lv_at hl 0 rfl) ?_
      refine done_v hw (my_runV (As := []) (rest := []) C hw 15 9 (hF 15 (by decide)) rfl rfl (mt_X9_keep l C.2.2.2.2.2.2.2 hF _ h) K_m_X9_269 K_i_X9_keep K_v_X9_keep K_n_X9 K_c_X9_keep hy_X9_keep ⟨Nat.le_of_ble_eq_true rfl, Nat.le_of_ble_eq_true rfl⟩ hl.1 rfl (Nat.le_of_ble_eq_true rfl) dX9_step_29 ⟨Nat.zero_le _, Nat.zero_le _⟩) (fun w2 H locs h hw => ?_)
      refine lv_aload_n hx hb dX9_step_32 rfl (lv_at hl 0 rfl) ?_
      refine lv_iload_n hx hb dX9_step_33 rfl (lv_at hl 1 rfl) ?_
      refine lv_iload_n hx hb dX9_step_34 rfl (lv_at hl 2 rfl) ?_
      refine lv_iload_n hx hb dX9_step_35 rfl (lv_at hl 3 rfl) ?_
      refine done_v hw (my_runV (As := [.int p1, .int p2, .int p3]) (rest := []) C hw 15 9 (hF 15 (by decide)) rfl rfl (mt_X9_steps l C.2.2.2.2.2.2.2 hF _ _ _ _ h) K_m_X9_272 K_i_X9_steps K_v_X9_steps K_n_X9 K_c_X9_steps hy_X9_steps ⟨Nat.le_of_ble_eq_true rfl, Nat.le_of_ble_eq_true rfl⟩ hl.1 rfl (Nat.le_of_ble_eq_true rfl) dX9_step_36 ⟨Nat.zero_le _, Nat.zero_le _⟩) (fun w3 H locs h hw => ?_)
      refine lv_aload_n hx hb dX9_step_39 rfl (lv_at hl 0 rfl) ?_
      refine done_i hw (my_runV (As := []) (rest := []) C hw 15 9 (hF 15 (by decide)) rfl rfl (mt_X9_sumNow l C.2.2.2.2.2.2.2 hF _ h) K_m_X9_201 K_i_X9_sumNow K_v_X9_sumNow K_n_X9 K_c_X9_sumNow hy_X9_sumNow ⟨Nat.le_of_ble_eq_true rfl, Nat.le_of_ble_eq_true rfl⟩ hl.1 rfl (Nat.le_of_ble_eq_true rfl) dX9_step_40 ⟨Nat.zero_le _, Nat.zero_le _⟩) (fun r2 w4 H locs h hw => ?_)
      rw [hQ]
      exact ret_i C hr hlk hw h dX9_step_43
    · have h := h.2 c2
      refine lv_iconst (v := 0) hx hb dX9_step_26 (by decide) ?_
      rw [hQ]
      exact ret_i C hr hlk hw h dX9_step_27
  · have h := h.1 c1
    refine lv_iconst (v := 0) hx hb dX9_step_11 (by decide) ?_
    refine lv_goto (tgt := 16) hx hb dX9_step_12 (by decide) ?_
    refine p9_0 C hw (hF 15 (by decide)) K_f_X9_45 dX9_step_16 (fun H locs hw => ?_)
    refine lv_aload_n hx hb dX9_step_19 rfl (lv_at hl 0 rfl) ?_
    refine g9_0 C hw (hF 15 (by decide)) K_f_X9_45 dX9_step_20 ?_
    refine lv_if_le (tgt := 28) hx hb dX9_step_23 (by decide) (fun c3 => ?_) (fun c3 => ?_)
    · have h := h.1 c3
      refine lv_aload_n hx hb dX9_step_28 rfl (lv_at hl 0 rfl) ?_
      refine done_v hw (my_runV (As := []) (rest := []) C hw 15 9 (hF 15 (by decide)) rfl rfl (mt_X9_keep l C.2.2.2.2.2.2.2 hF _ h) K_m_X9_269 K_i_X9_keep K_v_X9_keep K_n_X9 K_c_X9_keep hy_X9_keep ⟨Nat.le_of_ble_eq_true rfl, Nat.le_of_ble_eq_true rfl⟩ hl.1 rfl (Nat.le_of_ble_eq_true rfl) dX9_step_29 ⟨Nat.zero_le _, Nat.zero_le _⟩) (fun w5 H locs h hw => ?_)
      refine lv_aload_n hx hb dX9_step_32 rfl (lv_at hl 0 rfl) ?_
      refine lv_iload_n hx hb dX9_step_33 rfl (lv_at hl 1 rfl) ?_
      refine lv_iload_n hx hb dX9_step_34 rfl (lv_at hl 2 rfl) ?_
      refine lv_iload_n hx hb dX9_step_35 rfl (lv_at hl 3 rfl) ?_
      refine done_v hw (my_runV (As := [.int p1, .int p2, .int p3]) (rest := []) C hw 15 9 (hF 15 (by decide)) rfl rfl (mt_X9_steps l C.2.2.2.2.2.2.2 hF _ _ _ _ h) K_m_X9_272 K_i_X9_steps K_v_X9_steps K_n_X9 K_c_X9_steps hy_X9_steps ⟨Nat.le_of_ble_eq_true rfl, Nat.le_of_ble_eq_true rfl⟩ hl.1 rfl (Nat.le_of_ble_eq_true rfl) dX9_step_36 ⟨Nat.zero_le _, Nat.zero_le _⟩) (fun w6 H locs h hw => ?_)
      refine lv_aload_n hx hb dX9_step_39 rfl (lv_at hl 0 rfl) ?_
      refine done_i hw (my_runV (As := []) (rest := []) C hw 15 9 (hF 15 (by decide)) rfl rfl (mt_X9_sumNow l C.2.2.2.2.2.2.2 hF _ h) K_m_X9_201 K_i_X9_sumNow K_v_X9_sumNow K_n_X9 K_c_X9_sumNow hy_X9_sumNow ⟨Nat.le_of_ble_eq_true rfl, Nat.le_of_ble_eq_true rfl⟩ hl.1 rfl (Nat.le_of_ble_eq_true rfl) dX9_step_40 ⟨Nat.zero_le _, Nat.zero_le _⟩) (fun r3 w7 H locs h hw => ?_)
      rw [hQ]
      exact ret_i C hr hlk hw h dX9_step_43
    · have h := h.2 c3
      refine lv_iconst (v := 0) hx hb dX9_step_26 (by decide) ?_
      rw [hQ]
      exact ret_i C hr hlk hw h dX9_step_27
theorem hy_X9_claim : yX9_claim.cls ≠ "java/lang/invoke/MethodHandle" ∧ yX9_claim.cls ≠ "java/lang/invoke/VarHandle" ∧ (parseMethodDescriptor yX9_claim.desc).map (fun d => d.parameters.length) = some 1 := by decide +kernel
def wp_X9_claim (w : Wd) (p1 : Int32) (Post : Int32 → Wd → Prop) : Prop :=
  wp_X9_whyClaim w p1 (fun r1 w1 => (r1 = 0 → (((gI (sI w1 15 0 0) 15 0) ≤ 0 → (wp_X9_keep (sI w1 15 0 0) (fun w6 => ∀ y4 : Int32, y4 = gA w6 18 55 → (∀ y5 : Int32, y5 = 43 + (6 * y4) → (vp_in y5 140 ∧ (∀ y6 : Int32, y6 = (gA w6 18 y5.toNatClampNeg) - 1 → (vp_in y5 140 ∧ (wp_X9_acts (sA w6 18 y5.toNatClampNeg y6) 1 p1 ((-1)) ((-1)) (fun w7 => wp_X9_at w7 p1 (fun r4 w8 => vp_in (r4 + 5) 140 ∧ (wp_X9_at (sA w8 18 ((r4 + 5).toNatClampNeg) y4) p1 (fun r5 w9 => vp_in (r5 + 6) 140 ∧ (vp_in (43 + (6 * y4)) 140 ∧ (Post (gA (sA w9 18 ((r5 + 6).toNatClampNeg) 3) 18 ((43 + (6 * y4)).toNatClampNeg)) (sA w9 18 ((r5 + 6).toNatClampNeg) 3))))))))))))))) ∧ (¬ (gI (sI w1 15 0 0) 15 0) ≤ 0 → (Post 0 (sI w1 15 0 0))))) ∧ (¬ r1 = 0 → (((gI (sI w1 15 0 1) 15 0) ≤ 0 → (wp_X9_keep (sI w1 15 0 1) (fun w2 => ∀ y1 : Int32, y1 = gA w2 18 55 → (∀ y2 : Int32, y2 = 43 + (6 * y1) → (vp_in y2 140 ∧ (∀ y3 : Int32, y3 = (gA w2 18 y2.toNatClampNeg) - 1 → (vp_in y2 140 ∧ (wp_X9_acts (sA w2 18 y2.toNatClampNeg y3) 1 p1 ((-1)) ((-1)) (fun w3 => wp_X9_at w3 p1 (fun r2 w4 => vp_in (r2 + 5) 140 ∧ (wp_X9_at (sA w4 18 ((r2 + 5).toNatClampNeg) y1) p1 (fun r3 w5 => vp_in (r3 + 6) 140 ∧ (vp_in (43 + (6 * y1)) 140 ∧ (Post (gA (sA w5 18 ((r3 + 6).toNatClampNeg) 3) 18 ((43 + (6 * y1)).toNatClampNeg)) (sA w5 18 ((r3 + 6).toNatClampNeg) 3))))))))))))))) ∧ (¬ (gI (sI w1 15 0 1) 15 0) ≤ 0 → (Post 0 (sI w1 15 0 1))))))
set_option maxHeartbeats 4000000 in
set_option maxRecDepth 100000 in
theorem mt_X9_claim (l : Launch) {E : En} (hI : Inj E) (hF : ∀ o, (15 ≤ o ∧ o < 25) → o ∈ eL E) (w : Wd) (p1 : Int32) {Post : Int32 → Wd → Prop} (h : wp_X9_claim w p1 Post) : MI l E yX9_claim cX9_claim 3 (some .int) 6 135 [.ref (eA E 15), .int p1] w Post := by
  refine MG.intro hI (by decide +kernel) (Nat.le_of_ble_eq_true rfl) ?_
  intro p e s m args below meth c Q C hr hlk hQ hw ls hl
  have hx := C.1
  have hb := C.2.1
  have hl : lv_has ls 3 [(0, .ref (eA E 15)), (1, .int p1)] := hl
  unfold wp_X9_claim at h
  refine lv_aload_n hx hb dX9_claim_0 rfl (lv_at hl 0 rfl) ?_
  refine lv_aload_n hx hb dX9_claim_1 rfl (lv_at hl 0 rfl) ?_
  refine lv_iload_n hx hb dX9_claim_2 rfl (lv_at hl 1 rfl) ?_
  refine done_i hw (my_runV (As := [.int p1]) (rest := [.ref (eA E 15)]) C hw 15 9 (hF 15 (by decide)) rfl rfl (mt_X9_whyClaim l C.2.2.2.2.2.2.2 hF _ _ h) K_m_X9_229 K_i_X9_whyClaim K_v_X9_whyClaim K_n_X9 K_c_X9_whyClaim hy_X9_whyClaim ⟨Nat.le_of_ble_eq_true rfl, Nat.le_of_ble_eq_true rfl⟩ hl.1 rfl (Nat.le_of_ble_eq_true rfl) dX9_claim_3 ⟨Nat.zero_le _, Nat.zero_le _⟩) (fun r1 w1 H locs h hw => ?_)
  refine lv_if_ne (tgt := 13) hx hb dX9_claim_6 (by decide) (fun c1 => ?_) (fun c1 => ?_)
  · have h := h.2 c1
    refine lv_iconst (v := 1) hx hb dX9_claim_13 (by decide) ?_
    refine p9_0 C hw (hF 15 (by decide)) K_f_X9_45 dX9_claim_14 (fun H locs hw => ?_)
    refine lv_aload_n hx hb dX9_claim_17 rfl (lv_at hl 0 rfl) ?_
    refine g9_0 C hw (hF 15 (by decide)) K_f_X9_45 dX9_claim_18 ?_
    refine lv_if_le (tgt := 26) hx hb dX9_claim_21 (by decide) (fun c2 => ?_) (fun c2 => ?_)
    · have h := h.1 c2
      refine lv_aload_n hx hb dX9_claim_26 rfl (lv_at hl 0 rfl) ?_
      refine done_v hw (my_runV (As := []) (rest := []) C hw 15 9 (hF 15 (by decide)) rfl rfl (mt_X9_keep l C.2.2.2.2.2.2.2 hF _ h) K_m_X9_269 K_i_X9_keep K_v_X9_keep K_n_X9 K_c_X9_keep hy_X9_keep ⟨Nat.le_of_ble_eq_true rfl, Nat.le_of_ble_eq_true rfl⟩ hl.1 rfl (Nat.le_of_ble_eq_true rfl) dX9_claim_27 ⟨Nat.zero_le _, Nat.zero_le _⟩) (fun w2 H locs h hw => ?_)
      refine lv_aload_n hx hb dX9_claim_30 rfl (lv_at hl 0 rfl) ?_
      refine g9_13 C hw (hF 15 (by decide)) K_f_X9_17 dX9_claim_31 ?_
      refine lv_bipush (v := 55) hx hb dX9_claim_34 (by decide) ?_
      refine r_iald C hw 18 140 (hF 18 (by decide)) rfl (vp_lit (by decide)) dX9_claim_36 ?_
      refine lv_topi (fun y1 ey1 => ?_)
      have h := h y1 ey1
      refine lv_istore_n (lv' := [(2, .int y1), (0, .ref (eA E 15)), (1, .int p1)]) hx hb dX9_claim_37 rfl hl (by decide) rfl (fun ls hl => ?_)
      refine lv_aload_n hx hb dX9_claim_38 rfl (lv_at hl 1 rfl) ?_
      refine g9_13 C hw (hF 15 (by decide)) K_f_X9_17 dX9_claim_39 ?_
      refine lv_bipush (v := 43) hx hb dX9_claim_42 (by decide) ?_
      refine lv_bipush (v := 6) hx hb dX9_claim_44 (by decide) ?_
      refine lv_iload_n hx hb dX9_claim_46 rfl (lv_at hl 0 rfl) ?_
      refine lv_imul hx hb dX9_claim_47 ?_
      refine lv_iadd hx hb dX9_claim_48 ?_
      refine lv_topi (fun y2 ey2 => ?_)
      have h := h y2 ey2
      refine lv_dup2_11 hx hb dX9_claim_49 rfl rfl ?_
      obtain ⟨hi2, h⟩ := h
      refine r_iald C hw 18 140 (hF 18 (by decide)) rfl hi2 dX9_claim_50 ?_
      refine lv_iconst (v := 1) hx hb dX9_claim_51 (by decide) ?_
      refine lv_isub hx hb dX9_claim_52 ?_
      refine lv_topi (fun y3 ey3 => ?_)
      have h := h y3 ey3
      obtain ⟨hi3, h⟩ := h
      refine r_iast C hw 18 140 (hF 18 (by decide)) (fun _ => rfl) hi3 dX9_claim_53 (fun H locs hw => ?_)
      refine lv_aload_n hx hb dX9_claim_54 rfl (lv_at hl 1 rfl) ?_
      refine lv_iconst (v := 1) hx hb dX9_claim_55 (by decide) ?_
      refine lv_iload_n hx hb dX9_claim_56 rfl (lv_at hl 2 rfl) ?_
      refine lv_iconst (v := (-1)) hx hb dX9_claim_57 (by decide) ?_
      refine lv_iconst (v := (-1)) hx hb dX9_claim_58 (by decide) ?_
      refine done_v hw (my_runV (As := [.int 1, .int p1, .int ((-1)), .int ((-1))]) (rest := []) C hw 15 9 (hF 15 (by decide)) rfl rfl (mt_X9_acts l C.2.2.2.2.2.2.2 hF _ _ _ _ _ h) K_m_X9_265 K_i_X9_acts K_v_X9_acts K_n_X9 K_c_X9_acts hy_X9_acts ⟨Nat.le_of_ble_eq_true rfl, Nat.le_of_ble_eq_true rfl⟩ hl.1 rfl (Nat.le_of_ble_eq_true rfl) dX9_claim_59 ⟨Nat.zero_le _, Nat.zero_le _⟩) (fun w3 H locs h hw => ?_)
      refine lv_aload_n hx hb dX9_claim_62 rfl (lv_at hl 1 rfl) ?_
      refine g9_13 C hw (hF 15 (by decide)) K_f_X9_17 dX9_claim_63 ?_
      refine lv_iload_n hx hb dX9_claim_66 rfl (lv_at hl 2 rfl) ?_
      refine done_i hw (my_runS (As := [.int p1]) (rest := [.ref (eA E 18)]) C hw (mt_X9_at l C.2.2.2.2.2.2.2 hF _ _ h) K_m_X9_170 K_s_X9_at K_n_X9 K_c_X9_at hy_X9_at ⟨Nat.le_of_ble_eq_true rfl, Nat.le_of_ble_eq_true rfl⟩ hl.1 rfl (Nat.le_of_ble_eq_true rfl) dX9_claim_67 ⟨Nat.zero_le _, Nat.zero_le _⟩) (fun r2 w4 H locs h hw => ?_)
      refine lv_iconst (v := 5) hx hb dX9_claim_70 (by decide) ?_
      refine lv_iadd hx hb dX9_claim_71 ?_
      refine lv_iload_n hx hb dX9_claim_72 rfl (lv_at hl 0 rfl) ?_
      obtain ⟨hi4, h⟩ := h
      refine r_iast C hw 18 140 (hF 18 (by decide)) (fun _ => rfl) hi4 dX9_claim_73 (fun H locs hw => ?_)
      refine lv_aload_n hx hb dX9_claim_74 rfl (lv_at hl 1 rfl) ?_
      refine g9_13 C hw (hF 15 (by decide)) K_f_X9_17 dX9_claim_75 ?_
      refine lv_iload_n hx hb dX9_claim_78 rfl (lv_at hl 2 rfl) ?_
      refine done_i hw (my_runS (As := [.int p1]) (rest := [.ref (eA E 18)]) C hw (mt_X9_at l C.2.2.2.2.2.2.2 hF _ _ h) K_m_X9_170 K_s_X9_at K_n_X9 K_c_X9_at hy_X9_at ⟨Nat.le_of_ble_eq_true rfl, Nat.le_of_ble_eq_true rfl⟩ hl.1 rfl (Nat.le_of_ble_eq_true rfl) dX9_claim_79 ⟨Nat.zero_le _, Nat.zero_le _⟩) (fun r3 w5 H locs h hw => ?_)
      refine lv_bipush (v := 6) hx hb dX9_claim_82 (by decide) ?_
      refine lv_iadd hx hb dX9_claim_84 ?_
      refine lv_iconst (v := 3) hx hb dX9_claim_85 (by decide) ?_
      obtain ⟨hi5, h⟩ := h
      refine r_iast C hw 18 140 (hF 18 (by decide)) (fun _ => rfl) hi5 dX9_claim_86 (fun H locs hw => ?_)
      refine lv_aload_n hx hb dX9_claim_87 rfl (lv_at hl 1 rfl) ?_
      refine g9_13 C hw (hF 15 (by decide)) K_f_X9_17 dX9_claim_88 ?_
      refine lv_bipush (v := 43) hx hb dX9_claim_91 (by decide) ?_
      refine lv_bipush (v := 6) hx hb dX9_claim_93 (by decide) ?_
      refine lv_iload_n hx hb dX9_claim_95 rfl (lv_at hl 0 rfl) ?_
      refine lv_imul hx hb dX9_claim_96 ?_
      refine lv_iadd hx hb dX9_claim_97 ?_
      obtain ⟨hi6, h⟩ := h
      refine r_iald C hw 18 140 (hF 18 (by decide)) rfl hi6 dX9_claim_98 ?_
      rw [hQ]
      exact ret_i C hr hlk hw h dX9_claim_99
    · have h := h.2 c2
      refine lv_iconst (v := 0) hx hb dX9_claim_24 (by decide) ?_
      rw [hQ]
      exact ret_i C hr hlk hw h dX9_claim_25
  · have h := h.1 c1
    refine lv_iconst (v := 0) hx hb dX9_claim_9 (by decide) ?_
    refine lv_goto (tgt := 14) hx hb dX9_claim_10 (by decide) ?_
    refine p9_0 C hw (hF 15 (by decide)) K_f_X9_45 dX9_claim_14 (fun H locs hw => ?_)
    refine lv_aload_n hx hb dX9_claim_17 rfl (lv_at hl 0 rfl) ?_
    refine g9_0 C hw (hF 15 (by decide)) K_f_X9_45 dX9_claim_18 ?_
    refine lv_if_le (tgt := 26) hx hb dX9_claim_21 (by decide) (fun c3 => ?_) (fun c3 => ?_)
    · have h := h.1 c3
      refine lv_aload_n hx hb dX9_claim_26 rfl (lv_at hl 0 rfl) ?_
      refine done_v hw (my_runV (As := []) (rest := []) C hw 15 9 (hF 15 (by decide)) rfl rfl (mt_X9_keep l C.2.2.2.2.2.2.2 hF _ h) K_m_X9_269 K_i_X9_keep K_v_X9_keep K_n_X9 K_c_X9_keep hy_X9_keep ⟨Nat.le_of_ble_eq_true rfl, Nat.le_of_ble_eq_true rfl⟩ hl.1 rfl (Nat.le_of_ble_eq_true rfl) dX9_claim_27 ⟨Nat.zero_le _, Nat.zero_le _⟩) (fun w6 H locs h hw => ?_)
      refine lv_aload_n hx hb dX9_claim_30 rfl (lv_at hl 0 rfl) ?_
      refine g9_13 C hw (hF 15 (by decide)) K_f_X9_17 dX9_claim_31 ?_
      refine lv_bipush (v := 55) hx hb dX9_claim_34 (by decide) ?_
      refine r_iald C hw 18 140 (hF 18 (by decide)) rfl (vp_lit (by decide)) dX9_claim_36 ?_
      refine lv_topi (fun y4 ey4 => ?_)
      have h := h y4 ey4
      refine lv_istore_n (lv' := [(2, .int y4), (0, .ref (eA E 15)), (1, .int p1)]) hx hb dX9_claim_37 rfl hl (by decide) rfl (fun ls hl => ?_)
      refine lv_aload_n hx hb dX9_claim_38 rfl (lv_at hl 1 rfl) ?_
      refine g9_13 C hw (hF 15 (by decide)) K_f_X9_17 dX9_claim_39 ?_
      refine lv_bipush (v := 43) hx hb dX9_claim_42 (by decide) ?_
      refine lv_bipush (v := 6) hx hb dX9_claim_44 (by decide) ?_
      refine lv_iload_n hx hb dX9_claim_46 rfl (lv_at hl 0 rfl) ?_
      refine lv_imul hx hb dX9_claim_47 ?_
      refine lv_iadd hx hb dX9_claim_48 ?_
      refine lv_topi (fun y5 ey5 => ?_)
      have h := h y5 ey5
      refine lv_dup2_11 hx hb dX9_claim_49 rfl rfl ?_
      obtain ⟨hi8, h⟩ := h
      refine r_iald C hw 18 140 (hF 18 (by decide)) rfl hi8 dX9_claim_50 ?_
      refine lv_iconst (v := 1) hx hb dX9_claim_51 (by decide) ?_
      refine lv_isub hx hb dX9_claim_52 ?_
      refine lv_topi (fun y6 ey6 => ?_)
      have h := h y6 ey6
      obtain ⟨hi9, h⟩ := h
      refine r_iast C hw 18 140 (hF 18 (by decide)) (fun _ => rfl) hi9 dX9_claim_53 (fun H locs hw => ?_)
      refine lv_aload_n hx hb dX9_claim_54 rfl (lv_at hl 1 rfl) ?_
      refine lv_iconst (v := 1) hx hb dX9_claim_55 (by decide) ?_
      refine lv_iload_n hx hb dX9_claim_56 rfl (lv_at hl 2 rfl) ?_
      refine lv_iconst (v := (-1)) hx hb dX9_claim_57 (by decide) ?_
      refine lv_iconst (v := (-1)) hx hb dX9_claim_58 (by decide) ?_
      refine done_v hw (my_runV (As := [.int 1, .int p1, .int ((-1)), .int ((-1))]) (rest := []) C hw 15 9 (hF 15 (by decide)) rfl rfl (mt_X9_acts l C.2.2.2.2.2.2.2 hF _ _ _ _ _ h) K_m_X9_265 K_i_X9_acts K_v_X9_acts K_n_X9 K_c_X9_acts hy_X9_acts ⟨Nat.le_of_ble_eq_true rfl, Nat.le_of_ble_eq_true rfl⟩ hl.1 rfl (Nat.le_of_ble_eq_true rfl) dX9_claim_59 ⟨Nat.zero_le _, Nat.zero_le _⟩) (fun w7 H locs h hw => ?_)
      refine lv_aload_n hx hb dX9_claim_62 rfl (lv_at hl 1 rfl) ?_
      refine g9_13 C hw (hF 15 (by decide)) K_f_X9_17 dX9_claim_63 ?_
      refine lv_iload_n hx hb dX9_claim_66 rfl (lv_at hl 2 rfl) ?_
      refine done_i hw (my_runS (As := [.int p1]) (rest := [.ref (eA E 18)]) C hw (mt_X9_at l C.2.2.2.2.2.2.2 hF _ _ h) K_m_X9_170 K_s_X9_at K_n_X9 K_c_X9_at hy_X9_at ⟨Nat.le_of_ble_eq_true rfl, Nat.le_of_ble_eq_true rfl⟩ hl.1 rfl (Nat.le_of_ble_eq_true rfl) dX9_claim_67 ⟨Nat.zero_le _, Nat.zero_le _⟩) (fun r4 w8 H locs h hw => ?_)
      refine lv_iconst (v := 5) hx hb dX9_claim_70 (by decide) ?_
      refine lv_iadd hx hb dX9_claim_71 ?_
      refine lv_iload_n hx hb dX9_claim_72 rfl (lv_at hl 0 rfl) ?_
      obtain ⟨hi10, h⟩ := h
      refine r_iast C hw 18 140 (hF 18 (by decide)) (fun _ => rfl) hi10 dX9_claim_73 (fun H locs hw => ?_)
      refine lv_aload_n hx hb dX9_claim_74 rfl (lv_at hl 1 rfl) ?_
      refine g9_13 C hw (hF 15 (by decide)) K_f_X9_17 dX9_claim_75 ?_
      refine lv_iload_n hx hb dX9_claim_78 rfl (lv_at hl 2 rfl) ?_
      refine done_i hw (my_runS (As := [.int p1]) (rest := [.ref (eA E 18)]) C hw (mt_X9_at l C.2.2.2.2.2.2.2 hF _ _ h) K_m_X9_170 K_s_X9_at K_n_X9 K_c_X9_at hy_X9_at ⟨Nat.le_of_ble_eq_true rfl, Nat.le_of_ble_eq_true rfl⟩ hl.1 rfl (Nat.le_of_ble_eq_true rfl) dX9_claim_79 ⟨Nat.zero_le _, Nat.zero_le _⟩) (fun r5 w9 H locs h hw => ?_)
      refine lv_bipush (v := 6) hx hb dX9_claim_82 (by decide) ?_
      refine lv_iadd hx hb dX9_claim_84 ?_
      refine lv_iconst (v := 3) hx hb dX9_claim_85 (by decide) ?_
      obtain ⟨hi11, h⟩ := h
      refine r_iast C hw 18 140 (hF 18 (by decide)) (fun _ => rfl) hi11 dX9_claim_86 (fun H locs hw => ?_)
      refine lv_aload_n hx hb dX9_claim_87 rfl (lv_at hl 1 rfl) ?_
      refine g9_13 C hw (hF 15 (by decide)) K_f_X9_17 dX9_claim_88 ?_
      refine lv_bipush (v := 43) hx hb dX9_claim_91 (by decide) ?_
      refine lv_bipush (v := 6) hx hb dX9_claim_93 (by decide) ?_
      refine lv_iload_n hx hb dX9_claim_95 rfl (lv_at hl 0 rfl) ?_
      refine lv_imul hx hb dX9_claim_96 ?_
      refine lv_iadd hx hb dX9_claim_97 ?_
      obtain ⟨hi12, h⟩ := h
      refine r_iald C hw 18 140 (hF 18 (by decide)) rfl hi12 dX9_claim_98 ?_
      rw [hQ]
      exact ret_i C hr hlk hw h dX9_claim_99
    · have h := h.2 c3
      refine lv_iconst (v := 0) hx hb dX9_claim_24 (by decide) ?_
      rw [hQ]
      exact ret_i C hr hlk hw h dX9_claim_25
theorem hy_X9_lock : yX9_lock.cls ≠ "java/lang/invoke/MethodHandle" ∧ yX9_lock.cls ≠ "java/lang/invoke/VarHandle" ∧ (parseMethodDescriptor yX9_lock.desc).map (fun d => d.parameters.length) = some 2 := by decide +kernel
def wp_X9_lock (w : Wd) (p1 : Int32) (p2 : Int32) (Post : Int32 → Wd → Prop) : Prop :=
  wp_X9_whyLock w p1 p2 (fun r1 w1 => (r1 = 0 → (((gI (sI w1 15 0 0) 15 0) ≤ 0 → (wp_X9_keep (sI w1 15 0 0) (fun w6 => ∀ y5 : Int32, y5 = (43 + (6 * (gA w6 18 55))) + 1 → (vp_in y5 140 ∧ (∀ y6 : Int32, y6 = (gA w6 18 y5.toNatClampNeg) - 1 → (vp_in y5 140 ∧ (wp_X9_at (sA w6 18 y5.toNatClampNeg y6) p1 (fun r4 w7 => ∀ y7 : Int32, y7 = r4 + 3 → (vp_in y7 140 ∧ (∀ y8 : Int32, y8 = (gA w7 18 y7.toNatClampNeg) ||| ((1 : Int32) <<< (p2 &&& 31)) → (vp_in y7 140 ∧ (wp_X9_acts (sA w7 18 y7.toNatClampNeg y8) 2 p1 p2 ((-1)) (fun w8 => wp_X9_worthOf w8 p1 (fun r5 w9 => Post r5 w9)))))))))))))) ∧ (¬ (gI (sI w1 15 0 0) 15 0) ≤ 0 → (Post 0 (sI w1 15 0 0))))) ∧ (¬ r1 = 0 → (((gI (sI w1 15 0 1) 15 0) ≤ 0 → (wp_X9_keep (sI w1 15 0 1) (fun w2 => ∀ y1 : Int32, y1 = (43 + (6 * (gA w2 18 55))) + 1 → (vp_in y1 140 ∧ (∀ y2 : Int32, y2 = (gA w2 18 y1.toNatClampNeg) - 1 → (vp_in y1 140 ∧ (wp_X9_at (sA w2 18 y1.toNatClampNeg y2) p1 (fun r2 w3 => ∀ y3 : Int32, y3 = r2 + 3 → (vp_in y3 140 ∧ (∀ y4 : Int32, y4 = (gA w3 18 y3.toNatClampNeg) ||| ((1 : Int32) <<< (p2 &&& 31)) → (vp_in y3 140 ∧ (wp_X9_acts (sA w3 18 y3.toNatClampNeg y4) 2 p1 p2 ((-1)) (fun w4 => wp_X9_worthOf w4 p1 (fun r3 w5 => Post r3 w5)))))))))))))) ∧ (¬ (gI (sI w1 15 0 1) 15 0) ≤ 0 → (Post 0 (sI w1 15 0 1))))))
set_option maxHeartbeats 4000000 in
set_option maxRecDepth 100000 in
theorem mt_X9_lock (l : Launch) {E : En} (hI : Inj E) (hF : ∀ o, (15 ≤ o ∧ o < 25) → o ∈ eL E) (w : Wd) (p1 : Int32) (p2 : Int32) {Post : Int32 → Wd → Prop} (h : wp_X9_lock w p1 p2 Post) : MI l E yX9_lock cX9_lock 3 (some .int) 6 139 [.ref (eA E 15), .int p1, .int p2] w Post := by
  refine MG.intro hI (by decide +kernel) (Nat.le_of_ble_eq_true rfl) ?_
  intro p e s m args below meth c Q C hr hlk hQ hw ls hl
  have hx := C.1
  have hb := C.2.1
  have hl : lv_has ls 3 [(0, .ref (eA E 15)), (1, .int p1), (2, .int p2)] := hl
  unfold wp_X9_lock at h
  refine lv_aload_n hx hb dX9_lock_0 rfl (lv_at hl 0 rfl) ?_
  refine lv_aload_n hx hb dX9_lock_1 rfl (lv_at hl 0 rfl) ?_
  refine lv_iload_n hx hb dX9_lock_2 rfl (lv_at hl 1 rfl) ?_
  refine lv_iload_n hx hb dX9_lock_3 rfl (lv_at hl 2 rfl) ?_
  refine done_i hw (my_runV (As := [.int p1, .int p2]) (rest := [.ref (eA E 15)]) C hw 15 9 (hF 15 (by decide)) rfl rfl (mt_X9_whyLock l C.2.2.2.2.2.2.2 hF _ _ _ h) K_m_X9_232 K_i_X9_whyLock K_v_X9_whyLock K_n_X9 K_c_X9_whyLock hy_X9_whyLock ⟨Nat.le_of_ble_eq_true rfl, Nat.le_of_ble_eq_true rfl⟩ hl.1 rfl (Nat.le_of_ble_eq_true rfl) dX9_lock_4 ⟨Nat.zero_le _, Nat.zero_le _⟩) (fun r1 w1 H locs h hw => ?_)
  refine lv_if_ne (tgt := 14) hx hb dX9_lock_7 (by decide) (fun c1 => ?_) (fun c1 => ?_)
  · have h := h.2 c1
    refine lv_iconst (v := 1) hx hb dX9_lock_14 (by decide) ?_
    refine p9_0 C hw (hF 15 (by decide)) K_f_X9_45 dX9_lock_15 (fun H locs hw => ?_)
    refine lv_aload_n hx hb dX9_lock_18 rfl (lv_at hl 0 rfl) ?_
    refine g9_0 C hw (hF 15 (by decide)) K_f_X9_45 dX9_lock_19 ?_
    refine lv_if_le (tgt := 27) hx hb dX9_lock_22 (by decide) (fun c2 => ?_) (fun c2 => ?_)
    · have h := h.1 c2
      refine lv_aload_n hx hb dX9_lock_27 rfl (lv_at hl 0 rfl) ?_
      refine done_v hw (my_runV (As := []) (rest := []) C hw 15 9 (hF 15 (by decide)) rfl rfl (mt_X9_keep l C.2.2.2.2.2.2.2 hF _ h) K_m_X9_269 K_i_X9_keep K_v_X9_keep K_n_X9 K_c_X9_keep hy_X9_keep ⟨Nat.le_of_ble_eq_true rfl, Nat.le_of_ble_eq_true rfl⟩ hl.1 rfl (Nat.le_of_ble_eq_true rfl) dX9_lock_28 ⟨Nat.zero_le _, Nat.zero_le _⟩) (fun w2 H locs h hw => ?_)
      refine lv_aload_n hx hb dX9_lock_31 rfl (lv_at hl 0 rfl) ?_
      refine g9_13 C hw (hF 15 (by decide)) K_f_X9_17 dX9_lock_32 ?_
      refine lv_bipush (v := 43) hx hb dX9_lock_35 (by decide) ?_
      refine lv_bipush (v := 6) hx hb dX9_lock_37 (by decide) ?_
      refine lv_aload_n hx hb dX9_lock_39 rfl (lv_at hl 0 rfl) ?_
      refine g9_13 C hw (hF 15 (by decide)) K_f_X9_17 dX9_lock_40 ?_
      refine lv_bipush (v := 55) hx hb dX9_lock_43 (by decide) ?_
      refine r_iald C hw 18 140 (hF 18 (by decide)) rfl (vp_lit (by decide)) dX9_lock_45 ?_
      refine lv_imul hx hb dX9_lock_46 ?_
      refine lv_iadd hx hb dX9_lock_47 ?_
      refine lv_iconst (v := 1) hx hb dX9_lock_48 (by decide) ?_
      refine lv_iadd hx hb dX9_lock_49 ?_
      refine lv_topi (fun y1 ey1 => ?_)
      have h := h y1 ey1
      refine lv_dup2_11 hx hb dX9_lock_50 rfl rfl ?_
      obtain ⟨hi2, h⟩ := h
      refine r_iald C hw 18 140 (hF 18 (by decide)) rfl hi2 dX9_lock_51 ?_
      refine lv_iconst (v := 1) hx hb dX9_lock_52 (by decide) ?_
      refine lv_isub hx hb dX9_lock_53 ?_
      refine lv_topi (fun y2 ey2 => ?_)
      have h := h y2 ey2
      obtain ⟨hi3, h⟩ := h
      refine r_iast C hw 18 140 (hF 18 (by decide)) (fun _ => rfl) hi3 dX9_lock_54 (fun H locs hw => ?_)
      refine lv_aload_n hx hb dX9_lock_55 rfl (lv_at hl 0 rfl) ?_
      refine g9_13 C hw (hF 15 (by decide)) K_f_X9_17 dX9_lock_56 ?_
      refine lv_iload_n hx hb dX9_lock_59 rfl (lv_at hl 1 rfl) ?_
      refine done_i hw (my_runS (As := [.int p1]) (rest := [.ref (eA E 18)]) C hw (mt_X9_at l C.2.2.2.2.2.2.2 hF _ _ h) K_m_X9_170 K_s_X9_at K_n_X9 K_c_X9_at hy_X9_at ⟨Nat.le_of_ble_eq_true rfl, Nat.le_of_ble_eq_true rfl⟩ hl.1 rfl (Nat.le_of_ble_eq_true rfl) dX9_lock_60 ⟨Nat.zero_le _, Nat.zero_le _⟩) (fun r2 w3 H locs h hw => ?_)
      refine lv_iconst (v := 3) hx hb dX9_lock_63 (by decide) ?_
      refine lv_iadd hx hb dX9_lock_64 ?_
      refine lv_topi (fun y3 ey3 => ?_)
      have h := h y3 ey3
      refine lv_dup2_11 hx hb dX9_lock_65 rfl rfl ?_
      obtain ⟨hi4, h⟩ := h
      refine r_iald C hw 18 140 (hF 18 (by decide)) rfl hi4 dX9_lock_66 ?_
      refine lv_iconst (v := 1) hx hb dX9_lock_67 (by decide) ?_
      refine lv_iload_n hx hb dX9_lock_68 rfl (lv_at hl 2 rfl) ?_
      refine lv_ishl hx hb dX9_lock_69 ?_
      refine lv_ior hx hb dX9_lock_70 ?_
      refine lv_topi (fun y4 ey4 => ?_)
      have h := h y4 ey4
      obtain ⟨hi5, h⟩ := h
      refine r_iast C hw 18 140 (hF 18 (by decide)) (fun _ => rfl) hi5 dX9_lock_71 (fun H locs hw => ?_)
      refine lv_aload_n hx hb dX9_lock_72 rfl (lv_at hl 0 rfl) ?_
      refine lv_iconst (v := 2) hx hb dX9_lock_73 (by decide) ?_
      refine lv_iload_n hx hb dX9_lock_74 rfl (lv_at hl 1 rfl) ?_
      refine lv_iload_n hx hb dX9_lock_75 rfl (lv_at hl 2 rfl) ?_
      refine lv_iconst (v := (-1)) hx hb dX9_lock_76 (by decide) ?_
      refine done_v hw (my_runV (As := [.int 2, .int p1, .int p2, .int ((-1))]) (rest := []) C hw 15 9 (hF 15 (by decide)) rfl rfl (mt_X9_acts l C.2.2.2.2.2.2.2 hF _ _ _ _ _ h) K_m_X9_265 K_i_X9_acts K_v_X9_acts K_n_X9 K_c_X9_acts hy_X9_acts ⟨Nat.le_of_ble_eq_true rfl, Nat.le_of_ble_eq_true rfl⟩ hl.1 rfl (Nat.le_of_ble_eq_true rfl) dX9_lock_77 ⟨Nat.zero_le _, Nat.zero_le _⟩) (fun w4 H locs h hw => ?_)
      refine lv_aload_n hx hb dX9_lock_80 rfl (lv_at hl 0 rfl) ?_
      refine lv_iload_n hx hb dX9_lock_81 rfl (lv_at hl 1 rfl) ?_
      refine done_i hw (my_runV (As := [.int p1]) (rest := []) C hw 15 9 (hF 15 (by decide)) rfl rfl (mt_X9_worthOf l C.2.2.2.2.2.2.2 hF _ _ h) K_m_X9_187 K_i_X9_worthOf K_v_X9_worthOf K_n_X9 K_c_X9_worthOf hy_X9_worthOf ⟨Nat.le_of_ble_eq_true rfl, Nat.le_of_ble_eq_true rfl⟩ hl.1 rfl (Nat.le_of_ble_eq_true rfl) dX9_lock_82 ⟨Nat.zero_le _, Nat.zero_le _⟩) (fun r3 w5 H locs h hw => ?_)
      rw [hQ]
      exact ret_i C hr hlk hw h dX9_lock_85
    · have h := h.2 c2
      refine lv_iconst (v := 0) hx hb dX9_lock_25 (by decide) ?_
      rw [hQ]
      exact ret_i C hr hlk hw h dX9_lock_26
  · have h := h.1 c1
    refine lv_iconst (v := 0) hx hb dX9_lock_10 (by decide) ?_
    refine lv_goto (tgt := 15) hx hb dX9_lock_11 (by decide) ?_
    refine p9_0 C hw (hF 15 (by decide)) K_f_X9_45 dX9_lock_15 (fun H locs hw => ?_)
    refine lv_aload_n hx hb dX9_lock_18 rfl (lv_at hl 0 rfl) ?_
    refine g9_0 C hw (hF 15 (by decide)) K_f_X9_45 dX9_lock_19 ?_
    refine lv_if_le (tgt := 27) hx hb dX9_lock_22 (by decide) (fun c3 => ?_) (fun c3 => ?_)
    · have h := h.1 c3
      refine lv_aload_n hx hb dX9_lock_27 rfl (lv_at hl 0 rfl) ?_
      refine done_v hw (my_runV (As := []) (rest := []) C hw 15 9 (hF 15 (by decide)) rfl rfl (mt_X9_keep l C.2.2.2.2.2.2.2 hF _ h) K_m_X9_269 K_i_X9_keep K_v_X9_keep K_n_X9 K_c_X9_keep hy_X9_keep ⟨Nat.le_of_ble_eq_true rfl, Nat.le_of_ble_eq_true rfl⟩ hl.1 rfl (Nat.le_of_ble_eq_true rfl) dX9_lock_28 ⟨Nat.zero_le _, Nat.zero_le _⟩) (fun w6 H locs h hw => ?_)
      refine lv_aload_n hx hb dX9_lock_31 rfl (lv_at hl 0 rfl) ?_
      refine g9_13 C hw (hF 15 (by decide)) K_f_X9_17 dX9_lock_32 ?_
      refine lv_bipush (v := 43) hx hb dX9_lock_35 (by decide) ?_
      refine lv_bipush (v := 6) hx hb dX9_lock_37 (by decide) ?_
      refine lv_aload_n hx hb dX9_lock_39 rfl (lv_at hl 0 rfl) ?_
      refine g9_13 C hw (hF 15 (by decide)) K_f_X9_17 dX9_lock_40 ?_
      refine lv_bipush (v := 55) hx hb dX9_lock_43 (by decide) ?_
      refine r_iald C hw 18 140 (hF 18 (by decide)) rfl (vp_lit (by decide)) dX9_lock_45 ?_
      refine lv_imul hx hb dX9_lock_46 ?_
      refine lv_iadd hx hb dX9_lock_47 ?_
      refine lv_iconst (v := 1) hx hb dX9_lock_48 (by decide) ?_
      refine lv_iadd hx hb dX9_lock_49 ?_
      refine lv_topi (fun y5 ey5 => ?_)
      have h := h y5 ey5
      refine lv_dup2_11 hx hb dX9_lock_50 rfl rfl ?_
      obtain ⟨hi7, h⟩ := h
      refine r_iald C hw 18 140 (hF 18 (by decide)) rfl hi7 dX9_lock_51 ?_
      refine lv_iconst (v := 1) hx hb dX9_lock_52 (by decide) ?_
      refine lv_isub hx hb dX9_lock_53 ?_
      refine lv_topi (fun y6 ey6 => ?_)
      have h := h y6 ey6
      obtain ⟨hi8, h⟩ := h
      refine r_iast C hw 18 140 (hF 18 (by decide)) (fun _ => rfl) hi8 dX9_lock_54 (fun H locs hw => ?_)
      refine lv_aload_n hx hb dX9_lock_55 rfl (lv_at hl 0 rfl) ?_
      refine g9_13 C hw (hF 15 (by decide)) K_f_X9_17 dX9_lock_56 ?_
      refine lv_iload_n hx hb dX9_lock_59 rfl (lv_at hl 1 rfl) ?_
      refine done_i hw (my_runS (As := [.int p1]) (rest := [.ref (eA E 18)]) C hw (mt_X9_at l C.2.2.2.2.2.2.2 hF _ _ h) K_m_X9_170 K_s_X9_at K_n_X9 K_c_X9_at hy_X9_at ⟨Nat.le_of_ble_eq_true rfl, Nat.le_of_ble_eq_true rfl⟩ hl.1 rfl (Nat.le_of_ble_eq_true rfl) dX9_lock_60 ⟨Nat.zero_le _, Nat.zero_le _⟩) (fun r4 w7 H locs h hw => ?_)
      refine lv_iconst (v := 3) hx hb dX9_lock_63 (by decide) ?_
      refine lv_iadd hx hb dX9_lock_64 ?_
      refine lv_topi (fun y7 ey7 => ?_)
      have h := h y7 ey7
      refine lv_dup2_11 hx hb dX9_lock_65 rfl rfl ?_
      obtain ⟨hi9, h⟩ := h
      refine r_iald C hw 18 140 (hF 18 (by decide)) rfl hi9 dX9_lock_66 ?_
      refine lv_iconst (v := 1) hx hb dX9_lock_67 (by decide) ?_
      refine lv_iload_n hx hb dX9_lock_68 rfl (lv_at hl 2 rfl) ?_
      refine lv_ishl hx hb dX9_lock_69 ?_
      refine lv_ior hx hb dX9_lock_70 ?_
      refine lv_topi (fun y8 ey8 => ?_)
      have h := h y8 ey8
      obtain ⟨hi10, h⟩ := h
      refine r_iast C hw 18 140 (hF 18 (by decide)) (fun _ => rfl) hi10 dX9_lock_71 (fun H locs hw => ?_)
      refine lv_aload_n hx hb dX9_lock_72 rfl (lv_at hl 0 rfl) ?_
      refine lv_iconst (v := 2) hx hb dX9_lock_73 (by decide) ?_
      refine lv_iload_n hx hb dX9_lock_74 rfl (lv_at hl 1 rfl) ?_
      refine lv_iload_n hx hb dX9_lock_75 rfl (lv_at hl 2 rfl) ?_
      refine lv_iconst (v := (-1)) hx hb dX9_lock_76 (by decide) ?_
      refine done_v hw (my_runV (As := [.int 2, .int p1, .int p2, .int ((-1))]) (rest := []) C hw 15 9 (hF 15 (by decide)) rfl rfl (mt_X9_acts l C.2.2.2.2.2.2.2 hF _ _ _ _ _ h) K_m_X9_265 K_i_X9_acts K_v_X9_acts K_n_X9 K_c_X9_acts hy_X9_acts ⟨Nat.le_of_ble_eq_true rfl, Nat.le_of_ble_eq_true rfl⟩ hl.1 rfl (Nat.le_of_ble_eq_true rfl) dX9_lock_77 ⟨Nat.zero_le _, Nat.zero_le _⟩) (fun w8 H locs h hw => ?_)
      refine lv_aload_n hx hb dX9_lock_80 rfl (lv_at hl 0 rfl) ?_
      refine lv_iload_n hx hb dX9_lock_81 rfl (lv_at hl 1 rfl) ?_
      refine done_i hw (my_runV (As := [.int p1]) (rest := []) C hw 15 9 (hF 15 (by decide)) rfl rfl (mt_X9_worthOf l C.2.2.2.2.2.2.2 hF _ _ h) K_m_X9_187 K_i_X9_worthOf K_v_X9_worthOf K_n_X9 K_c_X9_worthOf hy_X9_worthOf ⟨Nat.le_of_ble_eq_true rfl, Nat.le_of_ble_eq_true rfl⟩ hl.1 rfl (Nat.le_of_ble_eq_true rfl) dX9_lock_82 ⟨Nat.zero_le _, Nat.zero_le _⟩) (fun r5 w9 H locs h hw => ?_)
      rw [hQ]
      exact ret_i C hr hlk hw h dX9_lock_85
    · have h := h.2 c3
      refine lv_iconst (v := 0) hx hb dX9_lock_25 (by decide) ?_
      rw [hQ]
      exact ret_i C hr hlk hw h dX9_lock_26
theorem hy_X9_back : yX9_back.cls ≠ "java/lang/invoke/MethodHandle" ∧ yX9_back.cls ≠ "java/lang/invoke/VarHandle" ∧ (parseMethodDescriptor yX9_back.desc).map (fun d => d.parameters.length) = some 0 := by decide +kernel
def wp_X9_back (w : Wd) (Post : Int32 → Wd → Prop) : Prop :=
  wp_X9_whyBack w (fun r1 w1 => (r1 = 0 → (((gI (sI w1 15 0 0) 15 0) ≤ 0 → (wp_X9_keep (sI w1 15 0 0) (fun w12 => wp_X9_latest w12 2 (fun r9 w13 => wp_X9_latest w13 3 (fun r10 w14 => wp_X9_latest w14 4 (fun r11 w15 => ∀ y6 : Int32, y6 = (43 + (6 * (gA w15 18 55))) + 2 → (vp_in y6 140 ∧ (∀ y7 : Int32, y7 = (gA w15 18 y6.toNatClampNeg) - 1 → (vp_in y6 140 ∧ (wp_X9_of (sA w15 18 y6.toNatClampNeg y7) r9 2 (fun r12 w16 => ∀ y8 : Int32, y8 = r10 - r11 → (wp_X9_at w16 r9 (fun r13 w17 => (y8 ≤ 0 → (∀ y9 : Int32, y9 = r12 ||| ((1 : Int32) <<< (r10 &&& 31)) → (vp_in (r13 + 2) 140 ∧ (wp_X9_acts (sA w17 18 ((r13 + 2).toNatClampNeg) y9) 3 r9 r10 r11 (fun w18 => wp_X9_sumNow (sA (sA (sA w18 18 57 r9) 18 58 r10) 18 59 r11) (fun r14 w19 => Post r14 w19)))))) ∧ (¬ y8 ≤ 0 → (∀ y10 : Int32, y10 = (r12 ^^^ ((1 : Int32) <<< (y8 &&& 31))) ||| ((1 : Int32) <<< (r10 &&& 31)) → (vp_in (r13 + 2) 140 ∧ (wp_X9_acts (sA w17 18 ((r13 + 2).toNatClampNeg) y10) 3 r9 r10 r11 (fun w20 => wp_X9_sumNow (sA (sA (sA w20 18 57 r9) 18 58 r10) 18 59 r11) (fun r15 w21 => Post r15 w21))))))))))))))))))) ∧ (¬ (gI (sI w1 15 0 0) 15 0) ≤ 0 → (Post 0 (sI w1 15 0 0))))) ∧ (¬ r1 = 0 → (((gI (sI w1 15 0 1) 15 0) ≤ 0 → (wp_X9_keep (sI w1 15 0 1) (fun w2 => wp_X9_latest w2 2 (fun r2 w3 => wp_X9_latest w3 3 (fun r3 w4 => wp_X9_latest w4 4 (fun r4 w5 => ∀ y1 : Int32, y1 = (43 + (6 * (gA w5 18 55))) + 2 → (vp_in y1 140 ∧ (∀ y2 : Int32, y2 = (gA w5 18 y1.toNatClampNeg) - 1 → (vp_in y1 140 ∧ (wp_X9_of (sA w5 18 y1.toNatClampNeg y2) r2 2 (fun r5 w6 => ∀ y3 : Int32, y3 = r3 - r4 → (wp_X9_at w6 r2 (fun r6 w7 => (y3 ≤ 0 → (∀ y4 : Int32, y4 = r5 ||| ((1 : Int32) <<< (r3 &&& 31)) → (vp_in (r6 + 2) 140 ∧ (wp_X9_acts (sA w7 18 ((r6 + 2).toNatClampNeg) y4) 3 r2 r3 r4 (fun w8 => wp_X9_sumNow (sA (sA (sA w8 18 57 r2) 18 58 r3) 18 59 r4) (fun r7 w9 => Post r7 w9)))))) ∧ (¬ y3 ≤ 0 → (∀ y5 : Int32, y5 = (r5 ^^^ ((1 : Int32) <<< (y3 &&& 31))) ||| ((1 : Int32) <<< (r3 &&& 31)) → (vp_in (r6 + 2) 140 ∧ (wp_X9_acts (sA w7 18 ((r6 + 2).toNatClampNeg) y5) 3 r2 r3 r4 (fun w10 => wp_X9_sumNow (sA (sA (sA w10 18 57 r2) 18 58 r3) 18 59 r4) (fun r8 w11 => Post r8 w11))))))))))))))))))) ∧ (¬ (gI (sI w1 15 0 1) 15 0) ≤ 0 → (Post 0 (sI w1 15 0 1))))))
set_option maxHeartbeats 4000000 in
set_option maxRecDepth 100000 in
theorem mt_X9_back (l : Launch) {E : En} (hI : Inj E) (hF : ∀ o, (15 ≤ o ∧ o < 25) → o ∈ eL E) (w : Wd) {Post : Int32 → Wd → Prop} (h : wp_X9_back w Post) : MI l E yX9_back cX9_back 6 (some .int) 7 161 [.ref (eA E 15)] w Post := by
  refine MG.intro hI (by decide +kernel) (Nat.le_of_ble_eq_true rfl) ?_
  intro p e s m args below meth c Q C hr hlk hQ hw ls hl
  have hx := C.1
  have hb := C.2.1
  have hl : lv_has ls 6 [(0, .ref (eA E 15))] := hl
  unfold wp_X9_back at h
  refine lv_aload_n hx hb dX9_back_0 rfl (lv_at hl 0 rfl) ?_
  refine lv_aload_n hx hb dX9_back_1 rfl (lv_at hl 0 rfl) ?_
  refine done_i hw (my_runV (As := []) (rest := [.ref (eA E 15)]) C hw 15 9 (hF 15 (by decide)) rfl rfl (mt_X9_whyBack l C.2.2.2.2.2.2.2 hF _ h) K_m_X9_238 K_i_X9_whyBack K_v_X9_whyBack K_n_X9 K_c_X9_whyBack hy_X9_whyBack ⟨Nat.le_of_ble_eq_true rfl, Nat.le_of_ble_eq_true rfl⟩ hl.1 rfl (Nat.le_of_ble_eq_true rfl) dX9_back_2 ⟨Nat.zero_le _, Nat.zero_le _⟩) (fun r1 w1 H locs h hw => ?_)
  refine lv_if_ne (tgt := 12) hx hb dX9_back_5 (by decide) (fun c1 => ?_) (fun c1 => ?_)
  · have h := h.2 c1
    refine lv_iconst (v := 1) hx hb dX9_back_12 (by decide) ?_
    refine p9_0 C hw (hF 15 (by decide)) K_f_X9_45 dX9_back_13 (fun H locs hw => ?_)
    refine lv_aload_n hx hb dX9_back_16 rfl (lv_at hl 0 rfl) ?_
    refine g9_0 C hw (hF 15 (by decide)) K_f_X9_45 dX9_back_17 ?_
    refine lv_if_le (tgt := 25) hx hb dX9_back_20 (by decide) (fun c2 => ?_) (fun c2 => ?_)
    · have h := h.1 c2
      refine lv_aload_n hx hb dX9_back_25 rfl (lv_at hl 0 rfl) ?_
      refine done_v hw (my_runV (As := []) (rest := []) C hw 15 9 (hF 15 (by decide)) rfl rfl (mt_X9_keep l C.2.2.2.2.2.2.2 hF _ h) K_m_X9_269 K_i_X9_keep K_v_X9_keep K_n_X9 K_c_X9_keep hy_X9_keep ⟨Nat.le_of_ble_eq_true rfl, Nat.le_of_ble_eq_true rfl⟩ hl.1 rfl (Nat.le_of_ble_eq_true rfl) dX9_back_26 ⟨Nat.zero_le _, Nat.zero_le _⟩) (fun w2 H locs h hw => ?_)
      refine lv_aload_n hx hb dX9_back_29 rfl (lv_at hl 0 rfl) ?_
      refine lv_iconst (v := 2) hx hb dX9_back_30 (by decide) ?_
      refine done_i hw (my_runV (As := [.int 2]) (rest := []) C hw 15 9 (hF 15 (by decide)) rfl rfl (mt_X9_latest l C.2.2.2.2.2.2.2 hF _ _ h) K_m_X9_235 K_i_X9_latest K_v_X9_latest K_n_X9 K_c_X9_latest hy_X9_latest ⟨Nat.le_of_ble_eq_true rfl, Nat.le_of_ble_eq_true rfl⟩ hl.1 rfl (Nat.le_of_ble_eq_true rfl) dX9_back_31 ⟨Nat.zero_le _, Nat.zero_le _⟩) (fun r2 w3 H locs h hw => ?_)
      refine lv_istore_n (lv' := [(1, .int r2), (0, .ref (eA E 15))]) hx hb dX9_back_34 rfl hl (by decide) rfl (fun ls hl => ?_)
      refine lv_aload_n hx hb dX9_back_35 rfl (lv_at hl 1 rfl) ?_
      refine lv_iconst (v := 3) hx hb dX9_back_36 (by decide) ?_
      refine done_i hw (my_runV (As := [.int 3]) (rest := []) C hw 15 9 (hF 15 (by decide)) rfl rfl (mt_X9_latest l C.2.2.2.2.2.2.2 hF _ _ h) K_m_X9_235 K_i_X9_latest K_v_X9_latest K_n_X9 K_c_X9_latest hy_X9_latest ⟨Nat.le_of_ble_eq_true rfl, Nat.le_of_ble_eq_true rfl⟩ hl.1 rfl (Nat.le_of_ble_eq_true rfl) dX9_back_37 ⟨Nat.zero_le _, Nat.zero_le _⟩) (fun r3 w4 H locs h hw => ?_)
      refine lv_istore_n (lv' := [(2, .int r3), (1, .int r2), (0, .ref (eA E 15))]) hx hb dX9_back_40 rfl hl (by decide) rfl (fun ls hl => ?_)
      refine lv_aload_n hx hb dX9_back_41 rfl (lv_at hl 2 rfl) ?_
      refine lv_iconst (v := 4) hx hb dX9_back_42 (by decide) ?_
      refine done_i hw (my_runV (As := [.int 4]) (rest := []) C hw 15 9 (hF 15 (by decide)) rfl rfl (mt_X9_latest l C.2.2.2.2.2.2.2 hF _ _ h) K_m_X9_235 K_i_X9_latest K_v_X9_latest K_n_X9 K_c_X9_latest hy_X9_latest ⟨Nat.le_of_ble_eq_true rfl, Nat.le_of_ble_eq_true rfl⟩ hl.1 rfl (Nat.le_of_ble_eq_true rfl) dX9_back_43 ⟨Nat.zero_le _, Nat.zero_le _⟩) (fun r4 w5 H locs h hw => ?_)
      refine lv_istore_n (lv' := [(3, .int r4), (2, .int r3), (1, .int r2), (0, .ref (eA E 15))]) hx hb dX9_back_46 rfl hl (by decide) rfl (fun ls hl => ?_)
      refine lv_aload_n hx hb dX9_back_47 rfl (lv_at hl 3 rfl) ?_
      refine g9_13 C hw (hF 15 (by decide)) K_f_X9_17 dX9_back_48 ?_
      refine lv_bipush (v := 43) hx hb dX9_back_51 (by decide) ?_
      refine lv_bipush (v := 6) hx hb dX9_back_53 (by decide) ?_
      refine lv_aload_n hx hb dX9_back_55 rfl (lv_at hl 3 rfl) ?_
      refine g9_13 C hw (hF 15 (by decide)) K_f_X9_17 dX9_back_56 ?_
      refine lv_bipush (v := 55) hx hb dX9_back_59 (by decide) ?_
      refine r_iald C hw 18 140 (hF 18 (by decide)) rfl (vp_lit (by decide)) dX9_back_61 ?_
      refine lv_imul hx hb dX9_back_62 ?_
      refine lv_iadd hx hb dX9_back_63 ?_
      refine lv_iconst (v := 2) hx hb dX9_back_64 (by decide) ?_
      refine lv_iadd hx hb dX9_back_65 ?_
      refine lv_topi (fun y1 ey1 => ?_)
      have h := h y1 ey1
      refine lv_dup2_11 hx hb dX9_back_66 rfl rfl ?_
      obtain ⟨hi2, h⟩ := h
      refine r_iald C hw 18 140 (hF 18 (by decide)) rfl hi2 dX9_back_67 ?_
      refine lv_iconst (v := 1) hx hb dX9_back_68 (by decide) ?_
      refine lv_isub hx hb dX9_back_69 ?_
      refine lv_topi (fun y2 ey2 => ?_)
      have h := h y2 ey2
      obtain ⟨hi3, h⟩ := h
      refine r_iast C hw 18 140 (hF 18 (by decide)) (fun _ => rfl) hi3 dX9_back_70 (fun H locs hw => ?_)
      refine lv_aload_n hx hb dX9_back_71 rfl (lv_at hl 3 rfl) ?_
      refine lv_iload_n hx hb dX9_back_72 rfl (lv_at hl 2 rfl) ?_
      refine lv_iconst (v := 2) hx hb dX9_back_73 (by decide) ?_
      refine done_i hw (my_runV (As := [.int r2, .int 2]) (rest := []) C hw 15 9 (hF 15 (by decide)) rfl rfl (mt_X9_of l C.2.2.2.2.2.2.2 hF _ _ _ h) K_m_X9_173 K_i_X9_of K_v_X9_of K_n_X9 K_c_X9_of hy_X9_of ⟨Nat.le_of_ble_eq_true rfl, Nat.le_of_ble_eq_true rfl⟩ hl.1 rfl (Nat.le_of_ble_eq_true rfl) dX9_back_74 ⟨Nat.zero_le _, Nat.zero_le _⟩) (fun r5 w6 H locs h hw => ?_)
      refine lv_istore (lv' := [(4, .int r5), (3, .int r4), (2, .int r3), (1, .int r2), (0, .ref (eA E 15))]) hx hb dX9_back_77 hl (by decide) rfl (fun ls hl => ?_)
      refine lv_iload_n hx hb dX9_back_79 rfl (lv_at hl 2 rfl) ?_
      refine lv_iload_n hx hb dX9_back_80 rfl (lv_at hl 1 rfl) ?_
      refine lv_isub hx hb dX9_back_81 ?_
      refine lv_topi (fun y3 ey3 => ?_)
      have h := h y3 ey3
      refine lv_istore (lv' := [(5, .int y3), (4, .int r5), (3, .int r4), (2, .int r3), (1, .int r2), (0, .ref (eA E 15))]) hx hb dX9_back_82 hl (by decide) rfl (fun ls hl => ?_)
      refine lv_aload_n hx hb dX9_back_84 rfl (lv_at hl 5 rfl) ?_
      refine g9_13 C hw (hF 15 (by decide)) K_f_X9_17 dX9_back_85 ?_
      refine lv_iload_n hx hb dX9_back_88 rfl (lv_at hl 4 rfl) ?_
      refine done_i hw (my_runS (As := [.int r2]) (rest := [.ref (eA E 18)]) C hw (mt_X9_at l C.2.2.2.2.2.2.2 hF _ _ h) K_m_X9_170 K_s_X9_at K_n_X9 K_c_X9_at hy_X9_at ⟨Nat.le_of_ble_eq_true rfl, Nat.le_of_ble_eq_true rfl⟩ hl.1 rfl (Nat.le_of_ble_eq_true rfl) dX9_back_89 ⟨Nat.zero_le _, Nat.zero_le _⟩) (fun r6 w7 H locs h hw => ?_)
      refine lv_iconst (v := 2) hx hb dX9_back_92 (by decide) ?_
      refine lv_iadd hx hb dX9_back_93 ?_
      refine lv_iload hx hb dX9_back_94 (lv_at hl 0 rfl) ?_
      refine lv_if_le (tgt := 109) hx hb dX9_back_96 (by decide) (fun c3 => ?_) (fun c3 => ?_)
      · have h := h.1 c3
        refine lv_iload hx hb dX9_back_109 (lv_at hl 1 rfl) ?_
        refine lv_iconst (v := 1) hx hb dX9_back_111 (by decide) ?_
        refine lv_iload_n hx hb dX9_back_112 rfl (lv_at hl 3 rfl) ?_
        refine lv_ishl hx hb dX9_back_113 ?_
        refine lv_ior hx hb dX9_back_114 ?_
        refine lv_topi (fun y4 ey4 => ?_)
        have h := h y4 ey4
        obtain ⟨hi4, h⟩ := h
        refine r_iast C hw 18 140 (hF 18 (by decide)) (fun _ => rfl) hi4 dX9_back_115 (fun H locs hw => ?_)
        refine lv_aload_n hx hb dX9_back_116 rfl (lv_at hl 5 rfl) ?_
        refine lv_iconst (v := 3) hx hb dX9_back_117 (by decide) ?_
        refine lv_iload_n hx hb dX9_back_118 rfl (lv_at hl 4 rfl) ?_
        refine lv_iload_n hx hb dX9_back_119 rfl (lv_at hl 3 rfl) ?_
        refine lv_iload_n hx hb dX9_back_120 rfl (lv_at hl 2 rfl) ?_
        refine done_v hw (my_runV (As := [.int 3, .int r2, .int r3, .int r4]) (rest := []) C hw 15 9 (hF 15 (by decide)) rfl rfl (mt_X9_acts l C.2.2.2.2.2.2.2 hF _ _ _ _ _ h) K_m_X9_265 K_i_X9_acts K_v_X9_acts K_n_X9 K_c_X9_acts hy_X9_acts ⟨Nat.le_of_ble_eq_true rfl, Nat.le_of_ble_eq_true rfl⟩ hl.1 rfl (Nat.le_of_ble_eq_true rfl) dX9_back_121 ⟨Nat.zero_le _, Nat.zero_le _⟩) (fun w8 H locs h hw => ?_)
        refine lv_aload_n hx hb dX9_back_124 rfl (lv_at hl 5 rfl) ?_
        refine g9_13 C hw (hF 15 (by decide)) K_f_X9_17 dX9_back_125 ?_
        refine lv_bipush (v := 57) hx hb dX9_back_128 (by decide) ?_
        refine lv_iload_n hx hb dX9_back_130 rfl (lv_at hl 4 rfl) ?_
        refine r_iast C hw 18 140 (hF 18 (by decide)) (fun _ => rfl) (vp_lit (by decide)) dX9_back_131 (fun H locs hw => ?_)
        refine lv_aload_n hx hb dX9_back_132 rfl (lv_at hl 5 rfl) ?_
        refine g9_13 C hw (hF 15 (by decide)) K_f_X9_17 dX9_back_133 ?_
        refine lv_bipush (v := 58) hx hb dX9_back_136 (by decide) ?_
        refine lv_iload_n hx hb dX9_back_138 rfl (lv_at hl 3 rfl) ?_
        refine r_iast C hw 18 140 (hF 18 (by decide)) (fun _ => rfl) (vp_lit (by decide)) dX9_back_139 (fun H locs hw => ?_)
        refine lv_aload_n hx hb dX9_back_140 rfl (lv_at hl 5 rfl) ?_
        refine g9_13 C hw (hF 15 (by decide)) K_f_X9_17 dX9_back_141 ?_
        refine lv_bipush (v := 59) hx hb dX9_back_144 (by decide) ?_
        refine lv_iload_n hx hb dX9_back_146 rfl (lv_at hl 2 rfl) ?_
        refine r_iast C hw 18 140 (hF 18 (by decide)) (fun _ => rfl) (vp_lit (by decide)) dX9_back_147 (fun H locs hw => ?_)
        refine lv_aload_n hx hb dX9_back_148 rfl (lv_at hl 5 rfl) ?_
        refine done_i hw (my_runV (As := []) (rest := []) C hw 15 9 (hF 15 (by decide)) rfl rfl (mt_X9_sumNow l C.2.2.2.2.2.2.2 hF _ h) K_m_X9_201 K_i_X9_sumNow K_v_X9_sumNow K_n_X9 K_c_X9_sumNow hy_X9_sumNow ⟨Nat.le_of_ble_eq_true rfl, Nat.le_of_ble_eq_true rfl⟩ hl.1 rfl (Nat.le_of_ble_eq_true rfl) dX9_back_149 ⟨Nat.zero_le _, Nat.zero_le _⟩) (fun r7 w9 H locs h hw => ?_)
        rw [hQ]
        exact ret_i C hr hlk hw h dX9_back_152
      · have h := h.2 c3
        refine lv_iload hx hb dX9_back_99 (lv_at hl 1 rfl) ?_
        refine lv_iconst (v := 1) hx hb dX9_back_101 (by decide) ?_
        refine lv_iload hx hb dX9_back_102 (lv_at hl 0 rfl) ?_
        refine lv_ishl hx hb dX9_back_104 ?_
        refine lv_ixor hx hb dX9_back_105 ?_
        refine lv_goto (tgt := 111) hx hb dX9_back_106 (by decide) ?_
        refine lv_iconst (v := 1) hx hb dX9_back_111 (by decide) ?_
        refine lv_iload_n hx hb dX9_back_112 rfl (lv_at hl 3 rfl) ?_
        refine lv_ishl hx hb dX9_back_113 ?_
        refine lv_ior hx hb dX9_back_114 ?_
        refine lv_topi (fun y5 ey5 => ?_)
        have h := h y5 ey5
        obtain ⟨hi8, h⟩ := h
        refine r_iast C hw 18 140 (hF 18 (by decide)) (fun _ => rfl) hi8 dX9_back_115 (fun H locs hw => ?_)
        refine lv_aload_n hx hb dX9_back_116 rfl (lv_at hl 5 rfl) ?_
        refine lv_iconst (v := 3) hx hb dX9_back_117 (by decide) ?_
        refine lv_iload_n hx hb dX9_back_118 rfl (lv_at hl 4 rfl) ?_
        refine lv_iload_n hx hb dX9_back_119 rfl (lv_at hl 3 rfl) ?_
        refine lv_iload_n hx hb dX9_back_120 rfl (lv_at hl 2 rfl) ?_
        refine done_v hw (my_runV (As := [.int 3, .int r2, .int r3, .int r4]) (rest := []) C hw 15 9 (hF 15 (by decide)) rfl rfl (mt_X9_acts l C.2.2.2.2.2.2.2 hF _ _ _ _ _ h) K_m_X9_265 K_i_X9_acts K_v_X9_acts K_n_X9 K_c_X9_acts hy_X9_acts ⟨Nat.le_of_ble_eq_true rfl, Nat.le_of_ble_eq_true rfl⟩ hl.1 rfl (Nat.le_of_ble_eq_true rfl) dX9_back_121 ⟨Nat.zero_le _, Nat.zero_le _⟩) (fun w10 H locs h hw => ?_)
        refine lv_aload_n hx hb dX9_back_124 rfl (lv_at hl 5 rfl) ?_
        refine g9_13 C hw (hF 15 (by decide)) K_f_X9_17 dX9_back_125 ?_
        refine lv_bipush (v := 57) hx hb dX9_back_128 (by decide) ?_
        refine lv_iload_n hx hb dX9_back_130 rfl (lv_at hl 4 rfl) ?_
        refine r_iast C hw 18 140 (hF 18 (by decide)) (fun _ => rfl) (vp_lit (by decide)) dX9_back_131 (fun H locs hw => ?_)
        refine lv_aload_n hx hb dX9_back_132 rfl (lv_at hl 5 rfl) ?_
        refine g9_13 C hw (hF 15 (by decide)) K_f_X9_17 dX9_back_133 ?_
        refine lv_bipush (v := 58) hx hb dX9_back_136 (by decide) ?_
        refine lv_iload_n hx hb dX9_back_138 rfl (lv_at hl 3 rfl) ?_
        refine r_iast C hw 18 140 (hF 18 (by decide)) (fun _ => rfl) (vp_lit (by decide)) dX9_back_139 (fun H locs hw => ?_)
        refine lv_aload_n hx hb dX9_back_140 rfl (lv_at hl 5 rfl) ?_
        refine g9_13 C hw (hF 15 (by decide)) K_f_X9_17 dX9_back_141 ?_
        refine lv_bipush (v := 59) hx hb dX9_back_144 (by decide) ?_
        refine lv_iload_n hx hb dX9_back_146 rfl (lv_at hl 2 rfl) ?_
        refine r_iast C hw 18 140 (hF 18 (by decide)) (fun _ => rfl) (vp_lit (by decide)) dX9_back_147 (fun H locs hw => ?_)
        refine lv_aload_n hx hb dX9_back_148 rfl (lv_at hl 5 rfl) ?_
        refine done_i hw (my_runV (As := []) (rest := []) C hw 15 9 (hF 15 (by decide)) rfl rfl (mt_X9_sumNow l C.2.2.2.2.2.2.2 hF _ h) K_m_X9_201 K_i_X9_sumNow K_v_X9_sumNow K_n_X9 K_c_X9_sumNow hy_X9_sumNow ⟨Nat.le_of_ble_eq_true rfl, Nat.le_of_ble_eq_true rfl⟩ hl.1 rfl (Nat.le_of_ble_eq_true rfl) dX9_back_149 ⟨Nat.zero_le _, Nat.zero_le _⟩) (fun r8 w11 H locs h hw => ?_)
        rw [hQ]
        exact ret_i C hr hlk hw h dX9_back_152
    · have h := h.2 c2
      refine lv_iconst (v := 0) hx hb dX9_back_23 (by decide) ?_
      rw [hQ]
      exact ret_i C hr hlk hw h dX9_back_24
  · have h := h.1 c1
    refine lv_iconst (v := 0) hx hb dX9_back_8 (by decide) ?_
    refine lv_goto (tgt := 13) hx hb dX9_back_9 (by decide) ?_
    refine p9_0 C hw (hF 15 (by decide)) K_f_X9_45 dX9_back_13 (fun H locs hw => ?_)
    refine lv_aload_n hx hb dX9_back_16 rfl (lv_at hl 0 rfl) ?_
    refine g9_0 C hw (hF 15 (by decide)) K_f_X9_45 dX9_back_17 ?_
    refine lv_if_le (tgt := 25) hx hb dX9_back_20 (by decide) (fun c4 => ?_) (fun c4 => ?_)
    · have h := h.1 c4
      refine lv_aload_n hx hb dX9_back_25 rfl (lv_at hl 0 rfl) ?_
      refine done_v hw (my_runV (As := []) (rest := []) C hw 15 9 (hF 15 (by decide)) rfl rfl (mt_X9_keep l C.2.2.2.2.2.2.2 hF _ h) K_m_X9_269 K_i_X9_keep K_v_X9_keep K_n_X9 K_c_X9_keep hy_X9_keep ⟨Nat.le_of_ble_eq_true rfl, Nat.le_of_ble_eq_true rfl⟩ hl.1 rfl (Nat.le_of_ble_eq_true rfl) dX9_back_26 ⟨Nat.zero_le _, Nat.zero_le _⟩) (fun w12 H locs h hw => ?_)
      refine lv_aload_n hx hb dX9_back_29 rfl (lv_at hl 0 rfl) ?_
      refine lv_iconst (v := 2) hx hb dX9_back_30 (by decide) ?_
      refine done_i hw (my_runV (As := [.int 2]) (rest := []) C hw 15 9 (hF 15 (by decide)) rfl rfl (mt_X9_latest l C.2.2.2.2.2.2.2 hF _ _ h) K_m_X9_235 K_i_X9_latest K_v_X9_latest K_n_X9 K_c_X9_latest hy_X9_latest ⟨Nat.le_of_ble_eq_true rfl, Nat.le_of_ble_eq_true rfl⟩ hl.1 rfl (Nat.le_of_ble_eq_true rfl) dX9_back_31 ⟨Nat.zero_le _, Nat.zero_le _⟩) (fun r9 w13 H locs h hw => ?_)
      refine lv_istore_n (lv' := [(1, .int r9), (0, .ref (eA E 15))]) hx hb dX9_back_34 rfl hl (by decide) rfl (fun ls hl => ?_)
      refine lv_aload_n hx hb dX9_back_35 rfl (lv_at hl 1 rfl) ?_
      refine lv_iconst (v := 3) hx hb dX9_back_36 (by decide) ?_
      refine done_i hw (my_runV (As := [.int 3]) (rest := []) C hw 15 9 (hF 15 (by decide)) rfl rfl (mt_X9_latest l C.2.2.2.2.2.2.2 hF _ _ h) K_m_X9_235 K_i_X9_latest K_v_X9_latest K_n_X9 K_c_X9_latest hy_X9_latest ⟨Nat.le_of_ble_eq_true rfl, Nat.le_of_ble_eq_true rfl⟩ hl.1 rfl (Nat.le_of_ble_eq_true rfl) dX9_back_37 ⟨Nat.zero_le _, Nat.zero_le _⟩) (fun r10 w14 H locs h hw => ?_)
      refine lv_istore_n (lv' := [(2, .int r10), (1, .int r9), (0, .ref (eA E 15))]) hx hb dX9_back_40 rfl hl (by decide) rfl (fun ls hl => ?_)
      refine lv_aload_n hx hb dX9_back_41 rfl (lv_at hl 2 rfl) ?_
      refine lv_iconst (v := 4) hx hb dX9_back_42 (by decide) ?_
      refine done_i hw (my_runV (As := [.int 4]) (rest := []) C hw 15 9 (hF 15 (by decide)) rfl rfl (mt_X9_latest l C.2.2.2.2.2.2.2 hF _ _ h) K_m_X9_235 K_i_X9_latest K_v_X9_latest K_n_X9 K_c_X9_latest hy_X9_latest ⟨Nat.le_of_ble_eq_true rfl, Nat.le_of_ble_eq_true rfl⟩ hl.1 rfl (Nat.le_of_ble_eq_true rfl) dX9_back_43 ⟨Nat.zero_le _, Nat.zero_le _⟩) (fun r11 w15 H locs h hw => ?_)
      refine lv_istore_n (lv' := [(3, .int r11), (2, .int r10), (1, .int r9), (0, .ref (eA E 15))]) hx hb dX9_back_46 rfl hl (by decide) rfl (fun ls hl => ?_)
      refine lv_aload_n hx hb dX9_back_47 rfl (lv_at hl 3 rfl) ?_
      refine g9_13 C hw (hF 15 (by decide)) K_f_X9_17 dX9_back_48 ?_
      refine lv_bipush (v := 43) hx hb dX9_back_51 (by decide) ?_
      refine lv_bipush (v := 6) hx hb dX9_back_53 (by decide) ?_
      refine lv_aload_n hx hb dX9_back_55 rfl (lv_at hl 3 rfl) ?_
      refine g9_13 C hw (hF 15 (by decide)) K_f_X9_17 dX9_back_56 ?_
      refine lv_bipush (v := 55) hx hb dX9_back_59 (by decide) ?_
      refine r_iald C hw 18 140 (hF 18 (by decide)) rfl (vp_lit (by decide)) dX9_back_61 ?_
      refine lv_imul hx hb dX9_back_62 ?_
      refine lv_iadd hx hb dX9_back_63 ?_
      refine lv_iconst (v := 2) hx hb dX9_back_64 (by decide) ?_
      refine lv_iadd hx hb dX9_back_65 ?_
      refine lv_topi (fun y6 ey6 => ?_)
      have h := h y6 ey6
      refine lv_dup2_11 hx hb dX9_back_66 rfl rfl ?_
      obtain ⟨hi13, h⟩ := h
      refine r_iald C hw 18 140 (hF 18 (by decide)) rfl hi13 dX9_back_67 ?_
      refine lv_iconst (v := 1) hx hb dX9_back_68 (by decide) ?_
      refine lv_isub hx hb dX9_back_69 ?_
      refine lv_topi (fun y7 ey7 => ?_)
      have h := h y7 ey7
      obtain ⟨hi14, h⟩ := h
      refine r_iast C hw 18 140 (hF 18 (by decide)) (fun _ => rfl) hi14 dX9_back_70 (fun H locs hw => ?_)
      refine lv_aload_n hx hb dX9_back_71 rfl (lv_at hl 3 rfl) ?_
      refine lv_iload_n hx hb dX9_back_72 rfl (lv_at hl 2 rfl) ?_
      refine lv_iconst (v := 2) hx hb dX9_back_73 (by decide) ?_
      refine done_i hw (my_runV (As := [.int r9, .int 2]) (rest := []) C hw 15 9 (hF 15 (by decide)) rfl rfl (mt_X9_of l C.2.2.2.2.2.2.2 hF _ _ _ h) K_m_X9_173 K_i_X9_of K_v_X9_of K_n_X9 K_c_X9_of hy_X9_of ⟨Nat.le_of_ble_eq_true rfl, Nat.le_of_ble_eq_true rfl⟩ hl.1 rfl (Nat.le_of_ble_eq_true rfl) dX9_back_74 ⟨Nat.zero_le _, Nat.zero_le _⟩) (fun r12 w16 H locs h hw => ?_)
      refine lv_istore (lv' := [(4, .int r12), (3, .int r11), (2, .int r10), (1, .int r9), (0, .ref (eA E 15))]) hx hb dX9_back_77 hl (by decide) rfl (fun ls hl => ?_)
      refine lv_iload_n hx hb dX9_back_79 rfl (lv_at hl 2 rfl) ?_
      refine lv_iload_n hx hb dX9_back_80 rfl (lv_at hl 1 rfl) ?_
      refine lv_isub hx hb dX9_back_81 ?_
      refine lv_topi (fun y8 ey8 => ?_)
      have h := h y8 ey8
      refine lv_istore (lv' := [(5, .int y8), (4, .int r12), (3, .int r11), (2, .int r10), (1, .int r9), (0, .ref (eA E 15))]) hx hb dX9_back_82 hl (by decide) rfl (fun ls hl => ?_)
      refine lv_aload_n hx hb dX9_back_84 rfl (lv_at hl 5 rfl) ?_
      refine g9_13 C hw (hF 15 (by decide)) K_f_X9_17 dX9_back_85 ?_
      refine lv_iload_n hx hb dX9_back_88 rfl (lv_at hl 4 rfl) ?_
      refine done_i hw (my_runS (As := [.int r9]) (rest := [.ref (eA E 18)]) C hw (mt_X9_at l C.2.2.2.2.2.2.2 hF _ _ h) K_m_X9_170 K_s_X9_at K_n_X9 K_c_X9_at hy_X9_at ⟨Nat.le_of_ble_eq_true rfl, Nat.le_of_ble_eq_true rfl⟩ hl.1 rfl (Nat.le_of_ble_eq_true rfl) dX9_back_89 ⟨Nat.zero_le _, Nat.zero_le _⟩) (fun r13 w17 H locs h hw => ?_)
      refine lv_iconst (v := 2) hx hb dX9_back_92 (by decide) ?_
      refine lv_iadd hx hb dX9_back_93 ?_
      refine lv_iload hx hb dX9_back_94 (lv_at hl 0 rfl) ?_
      refine lv_if_le (tgt := 109) hx hb dX9_back_96 (by decide) (fun c5 => ?_) (fun c5 => ?_)
      · have h := h.1 c5
        refine lv_iload hx hb dX9_back_109 (lv_at hl 1 rfl) ?_
        refine lv_iconst (v := 1) hx hb dX9_back_111 (by decide) ?_
        refine lv_iload_n hx hb dX9_back_112 rfl (lv_at hl 3 rfl) ?_
        refine lv_ishl hx hb dX9_back_113 ?_
        refine lv_ior hx hb dX9_back_114 ?_
        refine lv_topi (fun y9 ey9 => ?_)
        have h := h y9 ey9
        obtain ⟨hi15, h⟩ := h
        refine r_iast C hw 18 140 (hF 18 (by decide)) (fun _ => rfl) hi15 dX9_back_115 (fun H locs hw => ?_)
        refine lv_aload_n hx hb dX9_back_116 rfl (lv_at hl 5 rfl) ?_
        refine lv_iconst (v := 3) hx hb dX9_back_117 (by decide) ?_
        refine lv_iload_n hx hb dX9_back_118 rfl (lv_at hl 4 rfl) ?_
        refine lv_iload_n hx hb dX9_back_119 rfl (lv_at hl 3 rfl) ?_
        refine lv_iload_n hx hb dX9_back_120 rfl (lv_at hl 2 rfl) ?_
        refine done_v hw (my_runV (As := [.int 3, .int r9, .int r10, .int r11]) (rest := []) C hw 15 9 (hF 15 (by decide)) rfl rfl (mt_X9_acts l C.2.2.2.2.2.2.2 hF _ _ _ _ _ h) K_m_X9_265 K_i_X9_acts K_v_X9_acts K_n_X9 K_c_X9_acts hy_X9_acts ⟨Nat.le_of_ble_eq_true rfl, Nat.le_of_ble_eq_true rfl⟩ hl.1 rfl (Nat.le_of_ble_eq_true rfl) dX9_back_121 ⟨Nat.zero_le _, Nat.zero_le _⟩) (fun w18 H locs h hw => ?_)
        refine lv_aload_n hx hb dX9_back_124 rfl (lv_at hl 5 rfl) ?_
        refine g9_13 C hw (hF 15 (by decide)) K_f_X9_17 dX9_back_125 ?_
        refine lv_bipush (v := 57) hx hb dX9_back_128 (by decide) ?_
        refine lv_iload_n hx hb dX9_back_130 rfl (lv_at hl 4 rfl) ?_
        refine r_iast C hw 18 140 (hF 18 (by decide)) (fun _ => rfl) (vp_lit (by decide)) dX9_back_131 (fun H locs hw => ?_)
        refine lv_aload_n hx hb dX9_back_132 rfl (lv_at hl 5 rfl) ?_
        refine g9_13 C hw (hF 15 (by decide)) K_f_X9_17 dX9_back_133 ?_
        refine lv_bipush (v := 58) hx hb dX9_back_136 (by decide) ?_
        refine lv_iload_n hx hb dX9_back_138 rfl (lv_at hl 3 rfl) ?_
        refine r_iast C hw 18 140 (hF 18 (by decide)) (fun _ => rfl) (vp_lit (by decide)) dX9_back_139 (fun H locs hw => ?_)
        refine lv_aload_n hx hb dX9_back_140 rfl (lv_at hl 5 rfl) ?_
        refine g9_13 C hw (hF 15 (by decide)) K_f_X9_17 dX9_back_141 ?_
        refine lv_bipush (v := 59) hx hb dX9_back_144 (by decide) ?_
        refine lv_iload_n hx hb dX9_back_146 rfl (lv_at hl 2 rfl) ?_
        refine r_iast C hw 18 140 (hF 18 (by decide)) (fun _ => rfl) (vp_lit (by decide)) dX9_back_147 (fun H locs hw => ?_)
        refine lv_aload_n hx hb dX9_back_148 rfl (lv_at hl 5 rfl) ?_
        refine done_i hw (my_runV (As := []) (rest := []) C hw 15 9 (hF 15 (by decide)) rfl rfl (mt_X9_sumNow l C.2.2.2.2.2.2.2 hF _ h) K_m_X9_201 K_i_X9_sumNow K_v_X9_sumNow K_n_X9 K_c_X9_sumNow hy_X9_sumNow ⟨Nat.le_of_ble_eq_true rfl, Nat.le_of_ble_eq_true rfl⟩ hl.1 rfl (Nat.le_of_ble_eq_true rfl) dX9_back_149 ⟨Nat.zero_le _, Nat.zero_le _⟩) (fun r14 w19 H locs h hw => ?_)
        rw [hQ]
        exact ret_i C hr hlk hw h dX9_back_152
      · have h := h.2 c5
        refine lv_iload hx hb dX9_back_99 (lv_at hl 1 rfl) ?_
        refine lv_iconst (v := 1) hx hb dX9_back_101 (by decide) ?_
        refine lv_iload hx hb dX9_back_102 (lv_at hl 0 rfl) ?_
        refine lv_ishl hx hb dX9_back_104 ?_
        refine lv_ixor hx hb dX9_back_105 ?_
        refine lv_goto (tgt := 111) hx hb dX9_back_106 (by decide) ?_
        refine lv_iconst (v := 1) hx hb dX9_back_111 (by decide) ?_
        refine lv_iload_n hx hb dX9_back_112 rfl (lv_at hl 3 rfl) ?_
        refine lv_ishl hx hb dX9_back_113 ?_
        refine lv_ior hx hb dX9_back_114 ?_
        refine lv_topi (fun y10 ey10 => ?_)
        have h := h y10 ey10
        obtain ⟨hi19, h⟩ := h
        refine r_iast C hw 18 140 (hF 18 (by decide)) (fun _ => rfl) hi19 dX9_back_115 (fun H locs hw => ?_)
        refine lv_aload_n hx hb dX9_back_116 rfl (lv_at hl 5 rfl) ?_
        refine lv_iconst (v := 3) hx hb dX9_back_117 (by decide) ?_
        refine lv_iload_n hx hb dX9_back_118 rfl (lv_at hl 4 rfl) ?_
        refine lv_iload_n hx hb dX9_back_119 rfl (lv_at hl 3 rfl) ?_
        refine lv_iload_n hx hb dX9_back_120 rfl (lv_at hl 2 rfl) ?_
        refine done_v hw (my_runV (As := [.int 3, .int r9, .int r10, .int r11]) (rest := []) C hw 15 9 (hF 15 (by decide)) rfl rfl (mt_X9_acts l C.2.2.2.2.2.2.2 hF _ _ _ _ _ h) K_m_X9_265 K_i_X9_acts K_v_X9_acts K_n_X9 K_c_X9_acts hy_X9_acts ⟨Nat.le_of_ble_eq_true rfl, Nat.le_of_ble_eq_true rfl⟩ hl.1 rfl (Nat.le_of_ble_eq_true rfl) dX9_back_121 ⟨Nat.zero_le _, Nat.zero_le _⟩) (fun w20 H locs h hw => ?_)
        refine lv_aload_n hx hb dX9_back_124 rfl (lv_at hl 5 rfl) ?_
        refine g9_13 C hw (hF 15 (by decide)) K_f_X9_17 dX9_back_125 ?_
        refine lv_bipush (v := 57) hx hb dX9_back_128 (by decide) ?_
        refine lv_iload_n hx hb dX9_back_130 rfl (lv_at hl 4 rfl) ?_
        refine r_iast C hw 18 140 (hF 18 (by decide)) (fun _ => rfl) (vp_lit (by decide)) dX9_back_131 (fun H locs hw => ?_)
        refine lv_aload_n hx hb dX9_back_132 rfl (lv_at hl 5 rfl) ?_
        refine g9_13 C hw (hF 15 (by decide)) K_f_X9_17 dX9_back_133 ?_
        refine lv_bipush (v := 58) hx hb dX9_back_136 (by decide) ?_
        refine lv_iload_n hx hb dX9_back_138 rfl (lv_at hl 3 rfl) ?_
        refine r_iast C hw 18 140 (hF 18 (by decide)) (fun _ => rfl) (vp_lit (by decide)) dX9_back_139 (fun H locs hw => ?_)
        refine lv_aload_n hx hb dX9_back_140 rfl (lv_at hl 5 rfl) ?_
        refine g9_13 C hw (hF 15 (by decide)) K_f_X9_17 dX9_back_141 ?_
        refine lv_bipush (v := 59) hx hb dX9_back_144 (by decide) ?_
        refine lv_iload_n hx hb dX9_back_146 rfl (lv_at hl 2 rfl) ?_
        refine r_iast C hw 18 140 (hF 18 (by decide)) (fun _ => rfl) (vp_lit (by decide)) dX9_back_147 (fun H locs hw => ?_)
        refine lv_aload_n hx hb dX9_back_148 rfl (lv_at hl 5 rfl) ?_
        refine done_i hw (my_runV (As := []) (rest := []) C hw 15 9 (hF 15 (by decide)) rfl rfl (mt_X9_sumNow l C.2.2.2.2.2.2.2 hF _ h) K_m_X9_201 K_i_X9_sumNow K_v_X9_sumNow K_n_X9 K_c_X9_sumNow hy_X9_sumNow ⟨Nat.le_of_ble_eq_true rfl, Nat.le_of_ble_eq_true rfl⟩ hl.1 rfl (Nat.le_of_ble_eq_true rfl) dX9_back_149 ⟨Nat.zero_le _, Nat.zero_le _⟩) (fun r15 w21 H locs h hw => ?_)
        rw [hQ]
        exact ret_i C hr hlk hw h dX9_back_152
    · have h := h.2 c4
      refine lv_iconst (v := 0) hx hb dX9_back_23 (by decide) ?_
      rw [hQ]
      exact ret_i C hr hlk hw h dX9_back_24
theorem hy_X9_passes : yX9_passes.cls ≠ "java/lang/invoke/MethodHandle" ∧ yX9_passes.cls ≠ "java/lang/invoke/VarHandle" ∧ (parseMethodDescriptor yX9_passes.desc).map (fun d => d.parameters.length) = some 0 := by decide +kernel
def wp_X9_passes (w : Wd) (Post : Wd → Prop) : Prop :=
  ∀ y1 : Int32, y1 = (43 + (6 * (gA w 18 55))) + 5 → (vp_in y1 140 ∧ (∀ y2 : Int32, y2 = (gA w 18 y1.toNatClampNeg) + 1 → (vp_in y1 140 ∧ (wp_X9_acts (sA w 18 y1.toNatClampNeg y2) 4 ((-1)) ((-1)) ((-1)) (fun w1 => Post w1)))))
set_option maxHeartbeats 4000000 in
set_option maxRecDepth 100000 in
theorem mt_X9_passes (l : Launch) {E : En} (hI : Inj E) (hF : ∀ o, (15 ≤ o ∧ o < 25) → o ∈ eL E) (w : Wd) {Post : Wd → Prop} (h : wp_X9_passes w Post) : MV l E yX9_passes cX9_passes 1 none 2 47 [.ref (eA E 15)] w Post := by
  refine MG.intro hI (by decide +kernel) (Nat.le_of_ble_eq_true rfl) ?_
  intro p e s m args below meth c Q C hr hlk hQ hw ls hl
  have hx := C.1
  have hb := C.2.1
  have hl : lv_has ls 1 [(0, .ref (eA E 15))] := hl
  unfold wp_X9_passes at h
  refine lv_aload_n hx hb dX9_passes_0 rfl (lv_at hl 0 rfl) ?_
  refine g9_13 C hw (hF 15 (by decide)) K_f_X9_17 dX9_passes_1 ?_
  refine lv_bipush (v := 43) hx hb dX9_passes_4 (by decide) ?_
  refine lv_bipush (v := 6) hx hb dX9_passes_6 (by decide) ?_
  refine lv_aload_n hx hb dX9_passes_8 rfl (lv_at hl 0 rfl) ?_
  refine g9_13 C hw (hF 15 (by decide)) K_f_X9_17 dX9_passes_9 ?_
  refine lv_bipush (v := 55) hx hb dX9_passes_12 (by decide) ?_
  refine r_iald C hw 18 140 (hF 18 (by decide)) rfl (vp_lit (by decide)) dX9_passes_14 ?_
  refine lv_imul hx hb dX9_passes_15 ?_
  refine lv_iadd hx hb dX9_passes_16 ?_
  refine lv_iconst (v := 5) hx hb dX9_passes_17 (by decide) ?_
  refine lv_iadd hx hb dX9_passes_18 ?_
  refine lv_topi (fun y1 ey1 => ?_)
  have h := h y1 ey1
  refine lv_dup2_11 hx hb dX9_passes_19 rfl rfl ?_
  obtain ⟨hi2, h⟩ := h
  refine r_iald C hw 18 140 (hF 18 (by decide)) rfl hi2 dX9_passes_20 ?_
  refine lv_iconst (v := 1) hx hb dX9_passes_21 (by decide) ?_
  refine lv_iadd hx hb dX9_passes_22 ?_
  refine lv_topi (fun y2 ey2 => ?_)
  have h := h y2 ey2
  obtain ⟨hi3, h⟩ := h
  refine r_iast C hw 18 140 (hF 18 (by decide)) (fun _ => rfl) hi3 dX9_passes_23 (fun H locs hw => ?_)
  refine lv_aload_n hx hb dX9_passes_24 rfl (lv_at hl 0 rfl) ?_
  refine lv_iconst (v := 4) hx hb dX9_passes_25 (by decide) ?_
  refine lv_iconst (v := (-1)) hx hb dX9_passes_26 (by decide) ?_
  refine lv_iconst (v := (-1)) hx hb dX9_passes_27 (by decide) ?_
  refine lv_iconst (v := (-1)) hx hb dX9_passes_28 (by decide) ?_
  refine done_v hw (my_runV (As := [.int 4, .int ((-1)), .int ((-1)), .int ((-1))]) (rest := []) C hw 15 9 (hF 15 (by decide)) rfl rfl (mt_X9_acts l C.2.2.2.2.2.2.2 hF _ _ _ _ _ h) K_m_X9_265 K_i_X9_acts K_v_X9_acts K_n_X9 K_c_X9_acts hy_X9_acts ⟨Nat.le_of_ble_eq_true rfl, Nat.le_of_ble_eq_true rfl⟩ hl.1 rfl (Nat.le_of_ble_eq_true rfl) dX9_passes_29 ⟨Nat.zero_le _, Nat.zero_le _⟩) (fun w1 H locs h hw => ?_)
  rw [hQ]
  exact ret_v C hr hlk hw h dX9_passes_32
theorem hy_X9_pass : yX9_pass.cls ≠ "java/lang/invoke/MethodHandle" ∧ yX9_pass.cls ≠ "java/lang/invoke/VarHandle" ∧ (parseMethodDescriptor yX9_pass.desc).map (fun d => d.parameters.length) = some 0 := by decide +kernel
def wp_X9_pass (w : Wd) (Post : Int32 → Wd → Prop) : Prop :=
  wp_X9_isOver w (fun r1 w1 => (r1 = 0 → (wp_X9_finds w1 ((-1)) (fun r2 w4 => (r2 ≤ 0 → (((gI (sI w4 15 0 0) 15 0) ≤ 0 → (wp_X9_keep (sI w4 15 0 0) (fun w5 => wp_X9_passes w5 (fun w6 => Post (gA w6 18 55) w6)))) ∧ (¬ (gI (sI w4 15 0 0) 15 0) ≤ 0 → (Post 0 (sI w4 15 0 0))))) ∧ (¬ r2 ≤ 0 → (((gI (sI w4 15 0 1) 15 0) ≤ 0 → (wp_X9_keep (sI w4 15 0 1) (fun w7 => wp_X9_passes w7 (fun w8 => Post (gA w8 18 55) w8)))) ∧ (¬ (gI (sI w4 15 0 1) 15 0) ≤ 0 → (Post 0 (sI w4 15 0 1)))))))) ∧ (¬ r1 = 0 → (((gI (sI w1 15 0 1) 15 0) ≤ 0 → (wp_X9_keep (sI w1 15 0 1) (fun w2 => wp_X9_passes w2 (fun w3 => Post (gA w3 18 55) w3)))) ∧ (¬ (gI (sI w1 15 0 1) 15 0) ≤ 0 → (Post 0 (sI w1 15 0 1))))))
set_option maxHeartbeats 4000000 in
set_option maxRecDepth 100000 in
theorem mt_X9_pass (l : Launch) {E : En} (hI : Inj E) (hF : ∀ o, (15 ≤ o ∧ o < 25) → o ∈ eL E) (w : Wd) {Post : Int32 → Wd → Prop} (h : wp_X9_pass w Post) : MI l E yX9_pass cX9_pass 1 (some .int) 5 116 [.ref (eA E 15)] w Post := by
  refine MG.intro hI (by decide +kernel) (Nat.le_of_ble_eq_true rfl) ?_
  intro p e s m args below meth c Q C hr hlk hQ hw ls hl
  have hx := C.1
  have hb := C.2.1
  have hl : lv_has ls 1 [(0, .ref (eA E 15))] := hl
  unfold wp_X9_pass at h
  refine lv_aload_n hx hb dX9_pass_0 rfl (lv_at hl 0 rfl) ?_
  refine lv_aload_n hx hb dX9_pass_1 rfl (lv_at hl 0 rfl) ?_
  refine done_i hw (my_runV (As := []) (rest := [.ref (eA E 15)]) C hw 15 9 (hF 15 (by decide)) rfl rfl (mt_X9_isOver l C.2.2.2.2.2.2.2 hF _ h) K_m_X9_193 K_i_X9_isOver K_v_X9_isOver K_n_X9 K_c_X9_isOver hy_X9_isOver ⟨Nat.le_of_ble_eq_true rfl, Nat.le_of_ble_eq_true rfl⟩ hl.1 rfl (Nat.le_of_ble_eq_true rfl) dX9_pass_2 ⟨Nat.zero_le _, Nat.zero_le _⟩) (fun r1 w1 H locs h hw => ?_)
  refine lv_if_ne (tgt := 16) hx hb dX9_pass_5 (by decide) (fun c1 => ?_) (fun c1 => ?_)
  · have h := h.2 c1
    refine lv_iconst (v := 1) hx hb dX9_pass_16 (by decide) ?_
    refine lv_goto (tgt := 21) hx hb dX9_pass_17 (by decide) ?_
    refine p9_0 C hw (hF 15 (by decide)) K_f_X9_45 dX9_pass_21 (fun H locs hw => ?_)
    refine lv_aload_n hx hb dX9_pass_24 rfl (lv_at hl 0 rfl) ?_
    refine g9_0 C hw (hF 15 (by decide)) K_f_X9_45 dX9_pass_25 ?_
    refine lv_if_le (tgt := 33) hx hb dX9_pass_28 (by decide) (fun c2 => ?_) (fun c2 => ?_)
    · have h := h.1 c2
      refine lv_aload_n hx hb dX9_pass_33 rfl (lv_at hl 0 rfl) ?_
      refine done_v hw (my_runV (As := []) (rest := []) C hw 15 9 (hF 15 (by decide)) rfl rfl (mt_X9_keep l C.2.2.2.2.2.2.2 hF _ h) K_m_X9_269 K_i_X9_keep K_v_X9_keep K_n_X9 K_c_X9_keep hy_X9_keep ⟨Nat.le_of_ble_eq_true rfl, Nat.le_of_ble_eq_true rfl⟩ hl.1 rfl (Nat.le_of_ble_eq_true rfl) dX9_pass_34 ⟨Nat.zero_le _, Nat.zero_le _⟩) (fun w2 H locs h hw => ?_)
      refine lv_aload_n hx hb dX9_pass_37 rfl (lv_at hl 0 rfl) ?_
      refine done_v hw (my_runV (As := []) (rest := []) C hw 15 9 (hF 15 (by decide)) rfl rfl (mt_X9_passes l C.2.2.2.2.2.2.2 hF _ h) K_m_X9_275 K_i_X9_passes K_v_X9_passes K_n_X9 K_c_X9_passes hy_X9_passes ⟨Nat.le_of_ble_eq_true rfl, Nat.le_of_ble_eq_true rfl⟩ hl.1 rfl (Nat.le_of_ble_eq_true rfl) dX9_pass_38 ⟨Nat.zero_le _, Nat.zero_le _⟩) (fun w3 H locs h hw => ?_)
      refine lv_aload_n hx hb dX9_pass_41 rfl (lv_at hl 0 rfl) ?_
      refine g9_13 C hw (hF 15 (by decide)) K_f_X9_17 dX9_pass_42 ?_
      refine lv_bipush (v := 55) hx hb dX9_pass_45 (by decide) ?_
      refine r_iald C hw 18 140 (hF 18 (by decide)) rfl (vp_lit (by decide)) dX9_pass_47 ?_
      rw [hQ]
      exact ret_i C hr hlk hw h dX9_pass_48
    · have h := h.2 c2
      refine lv_iconst (v := 0) hx hb dX9_pass_31 (by decide) ?_
      rw [hQ]
      exact ret_i C hr hlk hw h dX9_pass_32
  · have h := h.1 c1
    refine lv_aload_n hx hb dX9_pass_8 rfl (lv_at hl 0 rfl) ?_
    refine lv_iconst (v := (-1)) hx hb dX9_pass_9 (by decide) ?_
    refine done_i hw (my_runV (As := [.int ((-1))]) (rest := [.ref (eA E 15)]) C hw 15 9 (hF 15 (by decide)) rfl rfl (mt_X9_finds l C.2.2.2.2.2.2.2 hF _ _ h) K_m_X9_253 K_i_X9_finds K_v_X9_finds K_n_X9 K_c_X9_finds hy_X9_finds ⟨Nat.le_of_ble_eq_true rfl, Nat.le_of_ble_eq_true rfl⟩ hl.1 rfl (Nat.le_of_ble_eq_true rfl) dX9_pass_10 ⟨Nat.zero_le _, Nat.zero_le _⟩) (fun r2 w4 H locs h hw => ?_)
    refine lv_if_le (tgt := 20) hx hb dX9_pass_13 (by decide) (fun c3 => ?_) (fun c3 => ?_)
    · have h := h.1 c3
      refine lv_iconst (v := 0) hx hb dX9_pass_20 (by decide) ?_
      refine p9_0 C hw (hF 15 (by decide)) K_f_X9_45 dX9_pass_21 (fun H locs hw => ?_)
      refine lv_aload_n hx hb dX9_pass_24 rfl (lv_at hl 0 rfl) ?_
      refine g9_0 C hw (hF 15 (by decide)) K_f_X9_45 dX9_pass_25 ?_
      refine lv_if_le (tgt := 33) hx hb dX9_pass_28 (by decide) (fun c4 => ?_) (fun c4 => ?_)
      · have h := h.1 c4
        refine lv_aload_n hx hb dX9_pass_33 rfl (lv_at hl 0 rfl) ?_
        refine done_v hw (my_runV (As := []) (rest := []) C hw 15 9 (hF 15 (by decide)) rfl rfl (mt_X9_keep l C.2.2.2.2.2.2.2 hF _ h) K_m_X9_269 K_i_X9_keep K_v_X9_keep K_n_X9 K_c_X9_keep hy_X9_keep ⟨Nat.le_of_ble_eq_true rfl, Nat.le_of_ble_eq_true rfl⟩ hl.1 rfl (Nat.le_of_ble_eq_true rfl) dX9_pass_34 ⟨Nat.zero_le _, Nat.zero_le _⟩) (fun w5 H locs h hw => ?_)
        refine lv_aload_n hx hb dX9_pass_37 rfl (lv_at hl 0 rfl) ?_
        refine done_v hw (my_runV (As := []) (rest := []) C hw 15 9 (hF 15 (by decide)) rfl rfl (mt_X9_passes l C.2.2.2.2.2.2.2 hF _ h) K_m_X9_275 K_i_X9_passes K_v_X9_passes K_n_X9 K_c_X9_passes hy_X9_passes ⟨Nat.le_of_ble_eq_true rfl, Nat.le_of_ble_eq_true rfl⟩ hl.1 rfl (Nat.le_of_ble_eq_true rfl) dX9_pass_38 ⟨Nat.zero_le _, Nat.zero_le _⟩) (fun w6 H locs h hw => ?_)
        refine lv_aload_n hx hb dX9_pass_41 rfl (lv_at hl 0 rfl) ?_
        refine g9_13 C hw (hF 15 (by decide)) K_f_X9_17 dX9_pass_42 ?_
        refine lv_bipush (v := 55) hx hb dX9_pass_45 (by decide) ?_
        refine r_iald C hw 18 140 (hF 18 (by decide)) rfl (vp_lit (by decide)) dX9_pass_47 ?_
        rw [hQ]
        exact ret_i C hr hlk hw h dX9_pass_48
      · have h := h.2 c4
        refine lv_iconst (v := 0) hx hb dX9_pass_31 (by decide) ?_
        rw [hQ]
        exact ret_i C hr hlk hw h dX9_pass_32
    · have h := h.2 c3
      refine lv_iconst (v := 1) hx hb dX9_pass_16 (by decide) ?_
      refine lv_goto (tgt := 21) hx hb dX9_pass_17 (by decide) ?_
      refine p9_0 C hw (hF 15 (by decide)) K_f_X9_45 dX9_pass_21 (fun H locs hw => ?_)
      refine lv_aload_n hx hb dX9_pass_24 rfl (lv_at hl 0 rfl) ?_
      refine g9_0 C hw (hF 15 (by decide)) K_f_X9_45 dX9_pass_25 ?_
      refine lv_if_le (tgt := 33) hx hb dX9_pass_28 (by decide) (fun c5 => ?_) (fun c5 => ?_)
      · have h := h.1 c5
        refine lv_aload_n hx hb dX9_pass_33 rfl (lv_at hl 0 rfl) ?_
        refine done_v hw (my_runV (As := []) (rest := []) C hw 15 9 (hF 15 (by decide)) rfl rfl (mt_X9_keep l C.2.2.2.2.2.2.2 hF _ h) K_m_X9_269 K_i_X9_keep K_v_X9_keep K_n_X9 K_c_X9_keep hy_X9_keep ⟨Nat.le_of_ble_eq_true rfl, Nat.le_of_ble_eq_true rfl⟩ hl.1 rfl (Nat.le_of_ble_eq_true rfl) dX9_pass_34 ⟨Nat.zero_le _, Nat.zero_le _⟩) (fun w7 H locs h hw => ?_)
        refine lv_aload_n hx hb dX9_pass_37 rfl (lv_at hl 0 rfl) ?_
        refine done_v hw (my_runV (As := []) (rest := []) C hw 15 9 (hF 15 (by decide)) rfl rfl (mt_X9_passes l C.2.2.2.2.2.2.2 hF _ h) K_m_X9_275 K_i_X9_passes K_v_X9_passes K_n_X9 K_c_X9_passes hy_X9_passes ⟨Nat.le_of_ble_eq_true rfl, Nat.le_of_ble_eq_true rfl⟩ hl.1 rfl (Nat.le_of_ble_eq_true rfl) dX9_pass_38 ⟨Nat.zero_le _, Nat.zero_le _⟩) (fun w8 H locs h hw => ?_)
        refine lv_aload_n hx hb dX9_pass_41 rfl (lv_at hl 0 rfl) ?_
        refine g9_13 C hw (hF 15 (by decide)) K_f_X9_17 dX9_pass_42 ?_
        refine lv_bipush (v := 55) hx hb dX9_pass_45 (by decide) ?_
        refine r_iald C hw 18 140 (hF 18 (by decide)) rfl (vp_lit (by decide)) dX9_pass_47 ?_
        rw [hQ]
        exact ret_i C hr hlk hw h dX9_pass_48
      · have h := h.2 c5
        refine lv_iconst (v := 0) hx hb dX9_pass_31 (by decide) ?_
        rw [hQ]
        exact ret_i C hr hlk hw h dX9_pass_32
theorem hy_X9_playsOne : yX9_playsOne.cls ≠ "java/lang/invoke/MethodHandle" ∧ yX9_playsOne.cls ≠ "java/lang/invoke/VarHandle" ∧ (parseMethodDescriptor yX9_playsOne.desc).map (fun d => d.parameters.length) = some 0 := by decide +kernel
def wp_X9_playsOne (w : Wd) (Post : Wd → Prop) : Prop :=
  wp_X9_finds w ((-1)) (fun r1 w1 => (r1 = 0 → (wp_X9_passes w1 (fun w7 => Post w7))) ∧ (¬ r1 = 0 → (wp_X9_bestOne w1 (fun r2 w2 => (r2 = ((-1)) → (wp_X9_finds w2 0 (fun r4 w5 => wp_X9_steps w5 (gI w5 15 23) (gI w5 15 24) (gI w5 15 25) (fun w6 => Post w6)))) ∧ (¬ r2 = ((-1)) → (wp_X9_finds w2 r2 (fun r3 w3 => wp_X9_steps w3 (gI w3 15 23) (gI w3 15 24) (gI w3 15 25) (fun w4 => Post w4))))))))
set_option maxHeartbeats 4000000 in
set_option maxRecDepth 100000 in
theorem mt_X9_playsOne (l : Launch) {E : En} (hI : Inj E) (hF : ∀ o, (15 ≤ o ∧ o < 25) → o ∈ eL E) (w : Wd) {Post : Wd → Prop} (h : wp_X9_playsOne w Post) : MV l E yX9_playsOne cX9_playsOne 4 none 8 187 [.ref (eA E 15)] w Post := by
  refine MG.intro hI (by decide +kernel) (Nat.le_of_ble_eq_true rfl) ?_
  intro p e s m args below meth c Q C hr hlk hQ hw ls hl
  have hx := C.1
  have hb := C.2.1
  have hl : lv_has ls 4 [(0, .ref (eA E 15))] := hl
  unfold wp_X9_playsOne at h
  refine lv_aload_n hx hb dX9_playsOne_0 rfl (lv_at hl 0 rfl) ?_
  refine lv_iconst (v := (-1)) hx hb dX9_playsOne_1 (by decide) ?_
  refine done_i hw (my_runV (As := [.int ((-1))]) (rest := []) C hw 15 9 (hF 15 (by decide)) rfl rfl (mt_X9_finds l C.2.2.2.2.2.2.2 hF _ _ h) K_m_X9_253 K_i_X9_finds K_v_X9_finds K_n_X9 K_c_X9_finds hy_X9_finds ⟨Nat.le_of_ble_eq_true rfl, Nat.le_of_ble_eq_true rfl⟩ hl.1 rfl (Nat.le_of_ble_eq_true rfl) dX9_playsOne_2 ⟨Nat.zero_le _, Nat.zero_le _⟩) (fun r1 w1 H locs h hw => ?_)
  refine lv_istore_n (lv' := [(1, .int r1), (0, .ref (eA E 15))]) hx hb dX9_playsOne_5 rfl hl (by decide) rfl (fun ls hl => ?_)
  refine lv_iload_n hx hb dX9_playsOne_6 rfl (lv_at hl 0 rfl) ?_
  refine lv_if_ne (tgt := 15) hx hb dX9_playsOne_7 (by decide) (fun c1 => ?_) (fun c1 => ?_)
  · have h := h.2 c1
    refine lv_aload_n hx hb dX9_playsOne_15 rfl (lv_at hl 1 rfl) ?_
    refine done_i hw (my_runV (As := []) (rest := []) C hw 15 9 (hF 15 (by decide)) rfl rfl (mt_X9_bestOne l C.2.2.2.2.2.2.2 hF _ h) K_m_X9_259 K_i_X9_bestOne K_v_X9_bestOne K_n_X9 K_c_X9_bestOne hy_X9_bestOne ⟨Nat.le_of_ble_eq_true rfl, Nat.le_of_ble_eq_true rfl⟩ hl.1 rfl (Nat.le_of_ble_eq_true rfl) dX9_playsOne_16 ⟨Nat.zero_le _, Nat.zero_le _⟩) (fun r2 w2 H locs h hw => ?_)
    refine lv_istore_n (lv' := [(2, .int r2), (1, .int r1), (0, .ref (eA E 15))]) hx hb dX9_playsOne_19 rfl hl (by decide) rfl (fun ls hl => ?_)
    refine lv_aload_n hx hb dX9_playsOne_20 rfl (lv_at hl 2 rfl) ?_
    refine lv_iload_n hx hb dX9_playsOne_21 rfl (lv_at hl 0 rfl) ?_
    refine lv_iconst (v := (-1)) hx hb dX9_playsOne_22 (by decide) ?_
    refine lv_icmp_ne (tgt := 30) hx hb dX9_playsOne_23 (by decide) (fun c2 => ?_) (fun c2 => ?_)
    · have h := h.2 c2
      refine lv_iload_n hx hb dX9_playsOne_30 rfl (lv_at hl 0 rfl) ?_
      refine done_i hw (my_runV (As := [.int r2]) (rest := []) C hw 15 9 (hF 15 (by decide)) rfl rfl (mt_X9_finds l C.2.2.2.2.2.2.2 hF _ _ h) K_m_X9_253 K_i_X9_finds K_v_X9_finds K_n_X9 K_c_X9_finds hy_X9_finds ⟨Nat.le_of_ble_eq_true rfl, Nat.le_of_ble_eq_true rfl⟩ hl.1 rfl (Nat.le_of_ble_eq_true rfl) dX9_playsOne_31 ⟨Nat.zero_le _, Nat.zero_le _⟩) (fun r3 w3 H locs h hw => ?_)
      refine lv_istore_n (lv' := [(3, .int r3), (2, .int r2), (1, .int r1), (0, .ref (eA E 15))]) hx hb dX9_playsOne_34 rfl hl (by decide) rfl (fun ls hl => ?_)
      refine lv_aload_n hx hb dX9_playsOne_35 rfl (lv_at hl 3 rfl) ?_
      refine lv_aload_n hx hb dX9_playsOne_36 rfl (lv_at hl 3 rfl) ?_
      refine g9_23 C hw (hF 15 (by decide)) K_f_X9_244 dX9_playsOne_37 ?_
      refine lv_aload_n hx hb dX9_playsOne_40 rfl (lv_at hl 3 rfl) ?_
      refine g9_24 C hw (hF 15 (by decide)) K_f_X9_247 dX9_playsOne_41 ?_
      refine lv_aload_n hx hb dX9_playsOne_44 rfl (lv_at hl 3 rfl) ?_
      refine g9_25 C hw (hF 15 (by decide)) K_f_X9_250 dX9_playsOne_45 ?_
      refine done_v hw (my_runV (As := [.int (gI w3 15 23), .int (gI w3 15 24), .int (gI w3 15 25)]) (rest := []) C hw 15 9 (hF 15 (by decide)) rfl rfl (mt_X9_steps l C.2.2.2.2.2.2.2 hF _ _ _ _ h) K_m_X9_272 K_i_X9_steps K_v_X9_steps K_n_X9 K_c_X9_steps hy_X9_steps ⟨Nat.le_of_ble_eq_true rfl, Nat.le_of_ble_eq_true rfl⟩ hl.1 rfl (Nat.le_of_ble_eq_true rfl) dX9_playsOne_48 ⟨Nat.zero_le _, Nat.zero_le _⟩) (fun w4 H locs h hw => ?_)
      rw [hQ]
      exact ret_v C hr hlk hw h dX9_playsOne_51
    · have h := h.1 c2
      refine lv_iconst (v := 0) hx hb dX9_playsOne_26 (by decide) ?_
      refine lv_goto (tgt := 31) hx hb dX9_playsOne_27 (by decide) ?_
      refine done_i hw (my_runV (As := [.int 0]) (rest := []) C hw 15 9 (hF 15 (by decide)) rfl rfl (mt_X9_finds l C.2.2.2.2.2.2.2 hF _ _ h) K_m_X9_253 K_i_X9_finds K_v_X9_finds K_n_X9 K_c_X9_finds hy_X9_finds ⟨Nat.le_of_ble_eq_true rfl, Nat.le_of_ble_eq_true rfl⟩ hl.1 rfl (Nat.le_of_ble_eq_true rfl) dX9_playsOne_31 ⟨Nat.zero_le _, Nat.zero_le _⟩) (fun r4 w5 H locs h hw => ?_)
      refine lv_istore_n (lv' := [(3, .int r4), (2, .int r2), (1, .int r1), (0, .ref (eA E 15))]) hx hb dX9_playsOne_34 rfl hl (by decide) rfl (fun ls hl => ?_)
      refine lv_aload_n hx hb dX9_playsOne_35 rfl (lv_at hl 3 rfl) ?_
      refine lv_aload_n hx hb dX9_playsOne_36 rfl (lv_at hl 3 rfl) ?_
      refine g9_23 C hw (hF 15 (by decide)) K_f_X9_244 dX9_playsOne_37 ?_
      refine lv_aload_n hx hb dX9_playsOne_40 rfl (lv_at hl 3 rfl) ?_
      refine g9_24 C hw (hF 15 (by decide)) K_f_X9_247 dX9_playsOne_41 ?_
      refine lv_aload_n hx hb dX9_playsOne_44 rfl (lv_at hl 3 rfl) ?_
      refine g9_25 C hw (hF 15 (by decide)) K_f_X9_250 dX9_playsOne_45 ?_
      refine done_v hw (my_runV (As := [.int (gI w5 15 23), .int (gI w5 15 24), .int (gI w5 15 25)]) (rest := []) C hw 15 9 (hF 15 (by decide)) rfl rfl (mt_X9_steps l C.2.2.2.2.2.2.2 hF _ _ _ _ h) K_m_X9_272 K_i_X9_steps K_v_X9_steps K_n_X9 K_c_X9_steps hy_X9_steps ⟨Nat.le_of_ble_eq_true rfl, Nat.le_of_ble_eq_true rfl⟩ hl.1 rfl (Nat.le_of_ble_eq_true rfl) dX9_playsOne_48 ⟨Nat.zero_le _, Nat.zero_le _⟩) (fun w6 H locs h hw => ?_)
      rw [hQ]
      exact ret_v C hr hlk hw h dX9_playsOne_51
  · have h := h.1 c1
    refine lv_aload_n hx hb dX9_playsOne_10 rfl (lv_at hl 1 rfl) ?_
    refine done_v hw (my_runV (As := []) (rest := []) C hw 15 9 (hF 15 (by decide)) rfl rfl (mt_X9_passes l C.2.2.2.2.2.2.2 hF _ h) K_m_X9_275 K_i_X9_passes K_v_X9_passes K_n_X9 K_c_X9_passes hy_X9_passes ⟨Nat.le_of_ble_eq_true rfl, Nat.le_of_ble_eq_true rfl⟩ hl.1 rfl (Nat.le_of_ble_eq_true rfl) dX9_playsOne_11 ⟨Nat.zero_le _, Nat.zero_le _⟩) (fun w7 H locs h hw => ?_)
    rw [hQ]
    exact ret_v C hr hlk hw h dX9_playsOne_14
theorem hy_X9_play : yX9_play.cls ≠ "java/lang/invoke/MethodHandle" ∧ yX9_play.cls ≠ "java/lang/invoke/VarHandle" ∧ (parseMethodDescriptor yX9_play.desc).map (fun d => d.parameters.length) = some 1 := by decide +kernel
def wp_X9_play (w : Wd) (p1 : Int32) (Post : Int32 → Wd → Prop) : Prop :=
  ∀ J34 : Int32 → Wd → Prop, (∀ (x2 : Int32) (w : Wd), ((p1 ≤ x2 → (Post x2 w)) ∧ (¬ p1 ≤ x2 → (wp_X9_isOver w (fun r2 w4 => (r2 = 0 → (wp_X9_playsOne w4 (fun w5 => ∀ y1 : Int32, y1 = x2 + 1 → (J34 y1 w5)))) ∧ (¬ r2 = 0 → (Post x2 w4)))))) → J34 x2 w) →
  wp_X9_within w p1 1 60 (fun r1 w1 => (r1 = 0 → (((gI (sI w1 15 0 1) 15 0) ≤ 0 → (wp_X9_keep (sI w1 15 0 1) (fun w2 => J34 0 w2))) ∧ (¬ (gI (sI w1 15 0 1) 15 0) ≤ 0 → (Post 0 (sI w1 15 0 1))))) ∧ (¬ r1 = 0 → (((gI (sI w1 15 0 0) 15 0) ≤ 0 → (wp_X9_keep (sI w1 15 0 0) (fun w3 => J34 0 w3))) ∧ (¬ (gI (sI w1 15 0 0) 15 0) ≤ 0 → (Post 0 (sI w1 15 0 0))))))
set_option maxHeartbeats 4000000 in
set_option maxRecDepth 100000 in
theorem mt_X9_play (l : Launch) {E : En} (hI : Inj E) (hF : ∀ o, (15 ≤ o ∧ o < 25) → o ∈ eL E) (w : Wd) (p1 : Int32) {Post : Int32 → Wd → Prop} (h : wp_X9_play w p1 Post) : MI l E yX9_play cX9_play 3 (some .int) 9 210 [.ref (eA E 15), .int p1] w Post := by
  refine MG.intro hI (by decide +kernel) (Nat.le_of_ble_eq_true rfl) ?_
  intro p e s m args below meth c Q C hr hlk hQ hw ls hl
  have hx := C.1
  have hb := C.2.1
  have hl : lv_has ls 3 [(0, .ref (eA E 15)), (1, .int p1)] := hl
  unfold wp_X9_play at h
  have h := h (fun x2 w => Jp E p l e (Rm 9 210) s m args below meth c Q 3 34 [(0, .ref (eA E 15)), (1, .int p1), (2, .int x2)] w)
  have h := h ?_
  rotate_left
  · intro x2 w h H locs hw ls hl
    refine lv_iload_n hx hb dX9_play_34 rfl (lv_at hl 2 rfl) ?_
    refine lv_iload_n hx hb dX9_play_35 rfl (lv_at hl 1 rfl) ?_
    refine lv_icmp_ge (tgt := 56) hx hb dX9_play_36 (by decide) (fun c4 => ?_) (fun c4 => ?_)
    · have h := h.1 c4
      refine lv_iload_n hx hb dX9_play_56 rfl (lv_at hl 2 rfl) ?_
      rw [hQ]
      exact ret_i C hr hlk hw h dX9_play_57
    · have h := h.2 c4
      refine lv_aload_n hx hb dX9_play_39 rfl (lv_at hl 0 rfl) ?_
      refine done_i hw (my_runV (As := []) (rest := []) C hw 15 9 (hF 15 (by decide)) rfl rfl (mt_X9_isOver l C.2.2.2.2.2.2.2 hF _ h) K_m_X9_193 K_i_X9_isOver K_v_X9_isOver K_n_X9 K_c_X9_isOver hy_X9_isOver ⟨Nat.le_of_ble_eq_true rfl, Nat.le_of_ble_eq_true rfl⟩ hl.1 rfl (Nat.le_of_ble_eq_true rfl) dX9_play_40 ⟨Nat.zero_le _, Nat.zero_le _⟩) (fun r2 w4 H locs h hw => ?_)
      refine lv_if_ne (tgt := 56) hx hb dX9_play_43 (by decide) (fun c5 => ?_) (fun c5 => ?_)
      · have h := h.2 c5
        refine lv_iload_n hx hb dX9_play_56 rfl (lv_at hl 2 rfl) ?_
        rw [hQ]
        exact ret_i C hr hlk hw h dX9_play_57
      · have h := h.1 c5
        refine lv_aload_n hx hb dX9_play_46 rfl (lv_at hl 0 rfl) ?_
        refine done_v hw (my_runV (As := []) (rest := []) C hw 15 9 (hF 15 (by decide)) rfl rfl (mt_X9_playsOne l C.2.2.2.2.2.2.2 hF _ h) K_m_X9_278 K_i_X9_playsOne K_v_X9_playsOne K_n_X9 K_c_X9_playsOne hy_X9_playsOne ⟨Nat.le_of_ble_eq_true rfl, Nat.le_of_ble_eq_true rfl⟩ hl.1 rfl (Nat.le_of_ble_eq_true rfl) dX9_play_47 ⟨Nat.zero_le _, Nat.zero_le _⟩) (fun w5 H locs h hw => ?_)
        obtain ⟨y1, ey1⟩ : ∃ y : Int32, y = x2 + 1 := ⟨_, rfl⟩
        have h := h y1 ey1
        refine lv_iinc (v := y1) (lv' := [(2, .int y1), (0, .ref (eA E 15)), (1, .int p1)]) hx hb dX9_play_50 hl (k := 2) rfl (by rw [ey1]; first | rfl | decide) (by decide) rfl (fun ls hl => ?_)
        refine lv_goto (tgt := 34) hx hb dX9_play_53 (by decide) ?_
        exact h _ _ hw _ (lv_sub hl [1, 2, 0] rfl)
  refine lv_aload_n hx hb dX9_play_0 rfl (lv_at hl 0 rfl) ?_
  refine lv_iload_n hx hb dX9_play_1 rfl (lv_at hl 1 rfl) ?_
  refine lv_iconst (v := 1) hx hb dX9_play_2 (by decide) ?_
  refine lv_bipush (v := 60) hx hb dX9_play_3 (by decide) ?_
  refine done_i hw (my_runS (As := [.int p1, .int 1, .int 60]) (rest := [.ref (eA E 15)]) C hw (mt_X9_within l C.2.2.2.2.2.2.2 hF _ _ _ _ h) K_m_X9_72 K_s_X9_within K_n_X9 K_c_X9_within hy_X9_within ⟨Nat.le_of_ble_eq_true rfl, Nat.le_of_ble_eq_true rfl⟩ hl.1 rfl (Nat.le_of_ble_eq_true rfl) dX9_play_5 ⟨Nat.zero_le _, Nat.zero_le _⟩) (fun r1 w1 H locs h hw => ?_)
  refine lv_if_eq (tgt := 15) hx hb dX9_play_8 (by decide) (fun c1 => ?_) (fun c1 => ?_)
  · have h := h.1 c1
    refine lv_iconst (v := 1) hx hb dX9_play_15 (by decide) ?_
    refine p9_0 C hw (hF 15 (by decide)) K_f_X9_45 dX9_play_16 (fun H locs hw => ?_)
    refine lv_aload_n hx hb dX9_play_19 rfl (lv_at hl 0 rfl) ?_
    refine g9_0 C hw (hF 15 (by decide)) K_f_X9_45 dX9_play_20 ?_
    refine lv_if_le (tgt := 28) hx hb dX9_play_23 (by decide) (fun c2 => ?_) (fun c2 => ?_)
    · have h := h.1 c2
      refine lv_aload_n hx hb dX9_play_28 rfl (lv_at hl 0 rfl) ?_
      refine done_v hw (my_runV (As := []) (rest := []) C hw 15 9 (hF 15 (by decide)) rfl rfl (mt_X9_keep l C.2.2.2.2.2.2.2 hF _ h) K_m_X9_269 K_i_X9_keep K_v_X9_keep K_n_X9 K_c_X9_keep hy_X9_keep ⟨Nat.le_of_ble_eq_true rfl, Nat.le_of_ble_eq_true rfl⟩ hl.1 rfl (Nat.le_of_ble_eq_true rfl) dX9_play_29 ⟨Nat.zero_le _, Nat.zero_le _⟩) (fun w2 H locs h hw => ?_)
      refine lv_iconst (v := 0) hx hb dX9_play_32 (by decide) ?_
      refine lv_istore_n (lv' := [(2, .int 0), (0, .ref (eA E 15)), (1, .int p1)]) hx hb dX9_play_33 rfl hl (by decide) rfl (fun ls hl => ?_)
      exact h _ _ hw _ (lv_sub hl [1, 2, 0] rfl)
    · have h := h.2 c2
      refine lv_iconst (v := 0) hx hb dX9_play_26 (by decide) ?_
      rw [hQ]
      exact ret_i C hr hlk hw h dX9_play_27
  · have h := h.2 c1
    refine lv_iconst (v := 0) hx hb dX9_play_11 (by decide) ?_
    refine lv_goto (tgt := 16) hx hb dX9_play_12 (by decide) ?_
    refine p9_0 C hw (hF 15 (by decide)) K_f_X9_45 dX9_play_16 (fun H locs hw => ?_)
    refine lv_aload_n hx hb dX9_play_19 rfl (lv_at hl 0 rfl) ?_
    refine g9_0 C hw (hF 15 (by decide)) K_f_X9_45 dX9_play_20 ?_
    refine lv_if_le (tgt := 28) hx hb dX9_play_23 (by decide) (fun c3 => ?_) (fun c3 => ?_)
    · have h := h.1 c3
      refine lv_aload_n hx hb dX9_play_28 rfl (lv_at hl 0 rfl) ?_
      refine done_v hw (my_runV (As := []) (rest := []) C hw 15 9 (hF 15 (by decide)) rfl rfl (mt_X9_keep l C.2.2.2.2.2.2.2 hF _ h) K_m_X9_269 K_i_X9_keep K_v_X9_keep K_n_X9 K_c_X9_keep hy_X9_keep ⟨Nat.le_of_ble_eq_true rfl, Nat.le_of_ble_eq_true rfl⟩ hl.1 rfl (Nat.le_of_ble_eq_true rfl) dX9_play_29 ⟨Nat.zero_le _, Nat.zero_le _⟩) (fun w3 H locs h hw => ?_)
      refine lv_iconst (v := 0) hx hb dX9_play_32 (by decide) ?_
      refine lv_istore_n (lv' := [(2, .int 0), (0, .ref (eA E 15)), (1, .int p1)]) hx hb dX9_play_33 rfl hl (by decide) rfl (fun ls hl => ?_)
      exact h _ _ hw _ (lv_sub hl [1, 2, 0] rfl)
    · have h := h.2 c3
      refine lv_iconst (v := 0) hx hb dX9_play_26 (by decide) ?_
      rw [hQ]
      exact ret_i C hr hlk hw h dX9_play_27
theorem hy_X9_undo : yX9_undo.cls ≠ "java/lang/invoke/MethodHandle" ∧ yX9_undo.cls ≠ "java/lang/invoke/VarHandle" ∧ (parseMethodDescriptor yX9_undo.desc).map (fun d => d.parameters.length) = some 0 := by decide +kernel
def wp_X9_undo (w : Wd) (Post : Int32 → Wd → Prop) : Prop :=
  ((gI (sI w 15 0 0) 15 15) = 0 → (Post ((-1)) (sI w 15 0 0))) ∧ (¬ (gI (sI w 15 0 0) 15 15) = 0 → (∀ y1 : Int32, y1 = (gI (sI w 15 0 0) 15 15) - 1 → (wp_X9_copy 19 1400 18 140 (sI (sI w 15 0 0) 15 15 y1) (gI (sI (sI w 15 0 0) 15 15 y1) 15 15) 0 (fun w1 => Post (gI w1 15 15) w1))))
set_option maxHeartbeats 4000000 in
set_option maxRecDepth 100000 in
theorem mt_X9_undo (l : Launch) {E : En} (hI : Inj E) (hF : ∀ o, (15 ≤ o ∧ o < 25) → o ∈ eL E) (w : Wd) {Post : Int32 → Wd → Prop} (h : wp_X9_undo w Post) : MI l E yX9_undo cX9_undo 1 (some .int) 1 24 [.ref (eA E 15)] w Post := by
  refine MG.intro hI (by decide +kernel) (Nat.le_of_ble_eq_true rfl) ?_
  intro p e s m args below meth c Q C hr hlk hQ hw ls hl
  have hx := C.1
  have hb := C.2.1
  have hl : lv_has ls 1 [(0, .ref (eA E 15))] := hl
  unfold wp_X9_undo at h
  refine lv_aload_n hx hb dX9_undo_0 rfl (lv_at hl 0 rfl) ?_
  refine lv_iconst (v := 0) hx hb dX9_undo_1 (by decide) ?_
  refine p9_0 C hw (hF 15 (by decide)) K_f_X9_45 dX9_undo_2 (fun H locs hw => ?_)
  refine lv_aload_n hx hb dX9_undo_5 rfl (lv_at hl 0 rfl) ?_
  refine g9_15 C hw (hF 15 (by decide)) K_f_X9_115 dX9_undo_6 ?_
  refine lv_if_ne (tgt := 14) hx hb dX9_undo_9 (by decide) (fun c1 => ?_) (fun c1 => ?_)
  · have h := h.2 c1
    refine lv_aload_n hx hb dX9_undo_14 rfl (lv_at hl 0 rfl) ?_
    refine lv_dup hx hb dX9_undo_15 rfl ?_
    refine g9_15 C hw (hF 15 (by decide)) K_f_X9_115 dX9_undo_16 ?_
    refine lv_iconst (v := 1) hx hb dX9_undo_19 (by decide) ?_
    refine lv_isub hx hb dX9_undo_20 ?_
    refine lv_topi (fun y1 ey1 => ?_)
    have h := h y1 ey1
    refine p9_15 C hw (hF 15 (by decide)) K_f_X9_115 dX9_undo_21 (fun H locs hw => ?_)
    refine lv_aload_n hx hb dX9_undo_24 rfl (lv_at hl 0 rfl) ?_
    refine g9_14 C hw (hF 15 (by decide)) K_f_X9_20 dX9_undo_25 ?_
    refine lv_aload_n hx hb dX9_undo_28 rfl (lv_at hl 0 rfl) ?_
    refine g9_15 C hw (hF 15 (by decide)) K_f_X9_115 dX9_undo_29 ?_
    refine lv_aload_n hx hb dX9_undo_32 rfl (lv_at hl 0 rfl) ?_
    refine g9_13 C hw (hF 15 (by decide)) K_f_X9_17 dX9_undo_33 ?_
    refine lv_iconst (v := 0) hx hb dX9_undo_36 (by decide) ?_
    refine done_v hw (my_runS (As := [.ref (eA E 19), .int (gI (sI (sI w 15 0 0) 15 15 y1) 15 15), .ref (eA E 18), .int 0]) (rest := []) C hw (mt_X9_copy l C.2.2.2.2.2.2.2 hF 19 1400 (hF 19 (by decide)) (fun _ => rfl) 18 140 (hF 18 (by decide)) (fun _ => rfl) _ _ _ h) K_m_X9_166 K_s_X9_copy K_n_X9 K_c_X9_copy hy_X9_copy ⟨Nat.le_of_ble_eq_true rfl, Nat.le_of_ble_eq_true rfl⟩ hl.1 rfl (Nat.le_of_ble_eq_true rfl) dX9_undo_37 ⟨Nat.zero_le _, Nat.zero_le _⟩) (fun w1 H locs h hw => ?_)
    refine lv_aload_n hx hb dX9_undo_40 rfl (lv_at hl 0 rfl) ?_
    refine g9_15 C hw (hF 15 (by decide)) K_f_X9_115 dX9_undo_41 ?_
    rw [hQ]
    exact ret_i C hr hlk hw h dX9_undo_44
  · have h := h.1 c1
    refine lv_iconst (v := (-1)) hx hb dX9_undo_12 (by decide) ?_
    rw [hQ]
    exact ret_i C hr hlk hw h dX9_undo_13
theorem hy_X9_saveSnapshot : yX9_saveSnapshot.cls ≠ "java/lang/invoke/MethodHandle" ∧ yX9_saveSnapshot.cls ≠ "java/lang/invoke/VarHandle" ∧ (parseMethodDescriptor yX9_saveSnapshot.desc).map (fun d => d.parameters.length) = some 1 := by decide +kernel
def wp_X9_saveSnapshot (w : Wd) (p1 : Int32) (Post : Int32 → Wd → Prop) : Prop :=
  wp_X9_within (sI w 15 0 0) p1 0 1 (fun r1 w1 => (r1 = 0 → (Post 0 w1)) ∧ (¬ r1 = 0 → (wp_X9_copy 18 140 20 280 w1 0 p1 (fun w2 => vp_in p1 2 ∧ (Post 1 (sA w2 21 p1.toNatClampNeg (vp_nar .boolean 1)))))))
set_option maxHeartbeats 4000000 in
set_option maxRecDepth 100000 in
theorem mt_X9_saveSnapshot (l : Launch) {E : En} (hI : Inj E) (hF : ∀ o, (15 ≤ o ∧ o < 25) → o ∈ eL E) (w : Wd) (p1 : Int32) {Post : Int32 → Wd → Prop} (h : wp_X9_saveSnapshot w p1 Post) : MI l E yX9_saveSnapshot cX9_saveSnapshot 2 (some .boolean) 1 24 [.ref (eA E 15), .int p1] w Post := by
  refine MG.intro hI (by decide +kernel) (Nat.le_of_ble_eq_true rfl) ?_
  intro p e s m args below meth c Q C hr hlk hQ hw ls hl
  have hx := C.1
  have hb := C.2.1
  have hl : lv_has ls 2 [(0, .ref (eA E 15)), (1, .int p1)] := hl
  unfold wp_X9_saveSnapshot at h
  refine lv_aload_n hx hb dX9_saveSnapshot_0 rfl (lv_at hl 0 rfl) ?_
  refine lv_iconst (v := 0) hx hb dX9_saveSnapshot_1 (by decide) ?_
  refine p9_0 C hw (hF 15 (by decide)) K_f_X9_45 dX9_saveSnapshot_2 (fun H locs hw => ?_)
  refine lv_iload_n hx hb dX9_saveSnapshot_5 rfl (lv_at hl 1 rfl) ?_
  refine lv_iconst (v := 0) hx hb dX9_saveSnapshot_6 (by decide) ?_
  refine lv_iconst (v := 1) hx hb dX9_saveSnapshot_7 (by decide) ?_
  refine done_i hw (my_runS (As := [.int p1, .int 0, .int 1]) (rest := []) C hw (mt_X9_within l C.2.2.2.2.2.2.2 hF _ _ _ _ h) K_m_X9_72 K_s_X9_within K_n_X9 K_c_X9_within hy_X9_within ⟨Nat.le_of_ble_eq_true rfl, Nat.le_of_ble_eq_true rfl⟩ hl.1 rfl (Nat.le_of_ble_eq_true rfl) dX9_saveSnapshot_8 ⟨Nat.zero_le _, Nat.zero_le _⟩) (fun r1 w1 H locs h hw => ?_)
  refine lv_if_ne (tgt := 16) hx hb dX9_saveSnapshot_11 (by decide) (fun c1 => ?_) (fun c1 => ?_)
  · have h := h.2 c1
    refine lv_aload_n hx hb dX9_saveSnapshot_16 rfl (lv_at hl 0 rfl) ?_
    refine g9_13 C hw (hF 15 (by decide)) K_f_X9_17 dX9_saveSnapshot_17 ?_
    refine lv_iconst (v := 0) hx hb dX9_saveSnapshot_20 (by decide) ?_
    refine lv_aload_n hx hb dX9_saveSnapshot_21 rfl (lv_at hl 0 rfl) ?_
    refine g9_16 C hw (hF 15 (by decide)) K_f_X9_23 dX9_saveSnapshot_22 ?_
    refine lv_iload_n hx hb dX9_saveSnapshot_25 rfl (lv_at hl 1 rfl) ?_
    refine done_v hw (my_runS (As := [.ref (eA E 18), .int 0, .ref (eA E 20), .int p1]) (rest := []) C hw (mt_X9_copy l C.2.2.2.2.2.2.2 hF 18 140 (hF 18 (by decide)) (fun _ => rfl) 20 280 (hF 20 (by decide)) (fun _ => rfl) _ _ _ h) K_m_X9_166 K_s_X9_copy K_n_X9 K_c_X9_copy hy_X9_copy ⟨Nat.le_of_ble_eq_true rfl, Nat.le_of_ble_eq_true rfl⟩ hl.1 rfl (Nat.le_of_ble_eq_true rfl) dX9_saveSnapshot_26 ⟨Nat.zero_le _, Nat.zero_le _⟩) (fun w2 H locs h hw => ?_)
    refine lv_aload_n hx hb dX9_saveSnapshot_29 rfl (lv_at hl 0 rfl) ?_
    refine g9_17 C hw (hF 15 (by decide)) K_f_X9_26 dX9_saveSnapshot_30 ?_
    refine lv_iload_n hx hb dX9_saveSnapshot_33 rfl (lv_at hl 1 rfl) ?_
    refine lv_iconst (v := 1) hx hb dX9_saveSnapshot_34 (by decide) ?_
    obtain ⟨hi1, h⟩ := h
    refine r_zast C hw 21 2 (hF 21 (by decide)) (fun _ => rfl) hi1 dX9_saveSnapshot_35 (fun H locs hw => ?_)
    refine lv_iconst (v := 1) hx hb dX9_saveSnapshot_36 (by decide) ?_
    rw [hQ]
    exact ret_z C hr hlk hw h (by decide) dX9_saveSnapshot_37
  · have h := h.1 c1
    refine lv_iconst (v := 0) hx hb dX9_saveSnapshot_14 (by decide) ?_
    rw [hQ]
    exact ret_z C hr hlk hw h (by decide) dX9_saveSnapshot_15
theorem hy_X9_restoreSnapshot : yX9_restoreSnapshot.cls ≠ "java/lang/invoke/MethodHandle" ∧ yX9_restoreSnapshot.cls ≠ "java/lang/invoke/VarHandle" ∧ (parseMethodDescriptor yX9_restoreSnapshot.desc).map (fun d => d.parameters.length) = some 1 := by decide +kernel
def wp_X9_restoreSnapshot (w : Wd) (p1 : Int32) (Post : Int32 → Wd → Prop) : Prop :=
  wp_X9_within (sI w 15 0 0) p1 0 1 (fun r1 w1 => (r1 = 0 → (Post 0 w1)) ∧ (¬ r1 = 0 → (vp_in p1 2 ∧ (((gA w1 21 p1.toNatClampNeg) = 0 → (Post 0 w1)) ∧ (¬ (gA w1 21 p1.toNatClampNeg) = 0 → (wp_X9_copy 20 280 18 140 w1 p1 0 (fun w2 => Post 1 (sI w2 15 15 0))))))))
set_option maxHeartbeats 4000000 in
set_option maxRecDepth 100000 in
theorem mt_X9_restoreSnapshot (l : Launch) {E : En} (hI : Inj E) (hF : ∀ o, (15 ≤ o ∧ o < 25) → o ∈ eL E) (w : Wd) (p1 : Int32) {Post : Int32 → Wd → Prop} (h : wp_X9_restoreSnapshot w p1 Post) : MI l E yX9_restoreSnapshot cX9_restoreSnapshot 2 (some .boolean) 1 24 [.ref (eA E 15), .int p1] w Post := by
  refine MG.intro hI (by decide +kernel) (Nat.le_of_ble_eq_true rfl) ?_
  intro p e s m args below meth c Q C hr hlk hQ hw ls hl
  have hx := C.1
  have hb := C.2.1
  have hl : lv_has ls 2 [(0, .ref (eA E 15)), (1, .int p1)] := hl
  unfold wp_X9_restoreSnapshot at h
  refine lv_aload_n hx hb dX9_restoreSnapshot_0 rfl (lv_at hl 0 rfl) ?_
  refine lv_iconst (v := 0) hx hb dX9_restoreSnapshot_1 (by decide) ?_
  refine p9_0 C hw (hF 15 (by decide)) K_f_X9_45 dX9_restoreSnapshot_2 (fun H locs hw => ?_)
  refine lv_iload_n hx hb dX9_restoreSnapshot_5 rfl (lv_at hl 1 rfl) ?_
  refine lv_iconst (v := 0) hx hb dX9_restoreSnapshot_6 (by decide) ?_
  refine lv_iconst (v := 1) hx hb dX9_restoreSnapshot_7 (by decide) ?_
  refine done_i hw (my_runS (As := [.int p1, .int 0, .int 1]) (rest := []) C hw (mt_X9_within l C.2.2.2.2.2.2.2 hF _ _ _ _ h) K_m_X9_72 K_s_X9_within K_n_X9 K_c_X9_within hy_X9_within ⟨Nat.le_of_ble_eq_true rfl, Nat.le_of_ble_eq_true rfl⟩ hl.1 rfl (Nat.le_of_ble_eq_true rfl) dX9_restoreSnapshot_8 ⟨Nat.zero_le _, Nat.zero_le _⟩) (fun r1 w1 H locs h hw => ?_)
  refine lv_if_eq (tgt := 23) hx hb dX9_restoreSnapshot_11 (by decide) (fun c1 => ?_) (fun c1 => ?_)
  · have h := h.1 c1
    refine lv_iconst (v := 0) hx hb dX9_restoreSnapshot_23 (by decide) ?_
    rw [hQ]
    exact ret_z C hr hlk hw h (by decide) dX9_restoreSnapshot_24
  · have h := h.2 c1
    refine lv_aload_n hx hb dX9_restoreSnapshot_14 rfl (lv_at hl 0 rfl) ?_
    refine g9_17 C hw (hF 15 (by decide)) K_f_X9_26 dX9_restoreSnapshot_15 ?_
    refine lv_iload_n hx hb dX9_restoreSnapshot_18 rfl (lv_at hl 1 rfl) ?_
    obtain ⟨hi1, h⟩ := h
    refine r_zald C hw 21 2 (hF 21 (by decide)) rfl hi1 dX9_restoreSnapshot_19 ?_
    refine lv_if_ne (tgt := 25) hx hb dX9_restoreSnapshot_20 (by decide) (fun c2 => ?_) (fun c2 => ?_)
    · have h := h.2 c2
      refine lv_aload_n hx hb dX9_restoreSnapshot_25 rfl (lv_at hl 0 rfl) ?_
      refine g9_16 C hw (hF 15 (by decide)) K_f_X9_23 dX9_restoreSnapshot_26 ?_
      refine lv_iload_n hx hb dX9_restoreSnapshot_29 rfl (lv_at hl 1 rfl) ?_
      refine lv_aload_n hx hb dX9_restoreSnapshot_30 rfl (lv_at hl 0 rfl) ?_
      refine g9_13 C hw (hF 15 (by decide)) K_f_X9_17 dX9_restoreSnapshot_31 ?_
      refine lv_iconst (v := 0) hx hb dX9_restoreSnapshot_34 (by decide) ?_
      refine done_v hw (my_runS (As := [.ref (eA E 20), .int p1, .ref (eA E 18), .int 0]) (rest := []) C hw (mt_X9_copy l C.2.2.2.2.2.2.2 hF 20 280 (hF 20 (by decide)) (fun _ => rfl) 18 140 (hF 18 (by decide)) (fun _ => rfl) _ _ _ h) K_m_X9_166 K_s_X9_copy K_n_X9 K_c_X9_copy hy_X9_copy ⟨Nat.le_of_ble_eq_true rfl, Nat.le_of_ble_eq_true rfl⟩ hl.1 rfl (Nat.le_of_ble_eq_true rfl) dX9_restoreSnapshot_35 ⟨Nat.zero_le _, Nat.zero_le _⟩) (fun w2 H locs h hw => ?_)
      refine lv_aload_n hx hb dX9_restoreSnapshot_38 rfl (lv_at hl 0 rfl) ?_
      refine lv_iconst (v := 0) hx hb dX9_restoreSnapshot_39 (by decide) ?_
      refine p9_15 C hw (hF 15 (by decide)) K_f_X9_115 dX9_restoreSnapshot_40 (fun H locs hw => ?_)
      refine lv_iconst (v := 1) hx hb dX9_restoreSnapshot_43 (by decide) ?_
      rw [hQ]
      exact ret_z C hr hlk hw h (by decide) dX9_restoreSnapshot_44
    · have h := h.1 c2
      refine lv_iconst (v := 0) hx hb dX9_restoreSnapshot_23 (by decide) ?_
      rw [hQ]
      exact ret_z C hr hlk hw h (by decide) dX9_restoreSnapshot_24

theorem vp_lt {i : Int32} {n : Nat} (h : vp_in i n) : i.toNatClampNeg < n := Nat.not_le.mp fun q => h (Or.inr q)
theorem nw_X8_11 : Cond.methodLinkNest "CoinLadders" 11 ⟨"CoinLadders$GameText", "<init>", "()V"⟩ "CoinLadders" ∈ nestW := by decide +kernel
theorem nw_X1_11 : Cond.methodLinkNest "CoinLadders$GameText" 11 ⟨"CoinLadders$Setup", "<init>", "()V"⟩ "CoinLadders" ∈ nestW := by decide +kernel
theorem nw_X0_11 : Cond.methodLinkNest "CoinLadders$Game" 11 ⟨"CoinLadders$Setup", "<init>", "()V"⟩ "CoinLadders" ∈ nestW := by decide +kernel
theorem nw_X0_27 : Cond.methodLinkNest "CoinLadders$Game" 27 ⟨"CoinLadders$Reach", "<init>", "()V"⟩ "CoinLadders" ∈ nestW := by decide +kernel
theorem nw_X0_49 : Cond.methodLinkNest "CoinLadders$Game" 49 ⟨"CoinLadders$LadderValues", "<init>", "()V"⟩ "CoinLadders" ∈ nestW := by decide +kernel
theorem nw_X0_68 : Cond.methodLinkNest "CoinLadders$Game" 68 ⟨"CoinLadders", "hasBit", "(II)Z"⟩ "CoinLadders" ∈ nestW := by decide +kernel
theorem nw_X4_21 : Cond.methodLinkNest "CoinLadders$Positions" 21 ⟨"CoinLadders", "hasBit", "(II)Z"⟩ "CoinLadders" ∈ nestW := by decide +kernel
theorem nw_X4_29 : Cond.methodLinkNest "CoinLadders$Positions" 29 ⟨"CoinLadders", "moved", "(III)I"⟩ "CoinLadders" ∈ nestW := by decide +kernel
theorem nw_X3_53 : Cond.methodLinkNest "CoinLadders$LadderValues" 53 ⟨"CoinLadders", "hasBit", "(II)Z"⟩ "CoinLadders" ∈ nestW := by decide +kernel
theorem nw_X0_136 : Cond.methodLinkNest "CoinLadders$Game" 136 ⟨"CoinLadders", "moved", "(III)I"⟩ "CoinLadders" ∈ nestW := by decide +kernel
theorem nw_X1_126 : Cond.methodLinkNest "CoinLadders$GameText" 126 ⟨"CoinLadders", "hasBit", "(II)Z"⟩ "CoinLadders" ∈ nestW := by decide +kernel
theorem hy_X8_hasBit : yX8_hasBit.cls ≠ "java/lang/invoke/MethodHandle" ∧ yX8_hasBit.cls ≠ "java/lang/invoke/VarHandle" ∧ (parseMethodDescriptor yX8_hasBit.desc).map (fun d => d.parameters.length) = some 2 := by decide +kernel
def wp_X8_hasBit (w : Wd) (p0 : Int32) (p1 : Int32) (Post : Int32 → Wd → Prop) : Prop :=
  (((p0 >>> (p1 &&& 31)) &&& 1) = 0 → (Post 0 w)) ∧ (¬ ((p0 >>> (p1 &&& 31)) &&& 1) = 0 → (Post 1 w))
set_option maxHeartbeats 4000000 in
set_option maxRecDepth 100000 in
theorem mt_X8_hasBit (l : Launch) {E : En} (hI : Inj E) (w : Wd) (p0 : Int32) (p1 : Int32) {Post : Int32 → Wd → Prop} (h : wp_X8_hasBit w p0 p1 Post) : MI l E yX8_hasBit cX8_hasBit 2 (some .boolean) 0 0 [.int p0, .int p1] w Post := by
  refine MG.intro hI (by decide +kernel) (Nat.le_of_ble_eq_true rfl) ?_
  intro p e s m args below meth c Q C hr hlk hQ hw ls hl
  have hx := C.1
  have hb := C.2.1
  have hl : lv_has ls 2 [(0, .int p0), (1, .int p1)] := hl
  unfold wp_X8_hasBit at h
  refine lv_iload_n hx hb dX8_hasBit_0 rfl (lv_at hl 0 rfl) ?_
  refine lv_iload_n hx hb dX8_hasBit_1 rfl (lv_at hl 1 rfl) ?_
  refine lv_ishr hx hb dX8_hasBit_2 ?_
  refine lv_iconst (v := 1) hx hb dX8_hasBit_3 (by decide) ?_
  refine lv_iand hx hb dX8_hasBit_4 ?_
  refine lv_if_eq (tgt := 12) hx hb dX8_hasBit_5 (by decide) (fun c1 => ?_) (fun c1 => ?_)
  · have h := h.1 c1
    refine lv_iconst (v := 0) hx hb dX8_hasBit_12 (by decide) ?_
    rw [hQ]
    exact ret_z C hr hlk hw h (by decide) dX8_hasBit_13
  · have h := h.2 c1
    refine lv_iconst (v := 1) hx hb dX8_hasBit_8 (by decide) ?_
    refine lv_goto (tgt := 13) hx hb dX8_hasBit_9 (by decide) ?_
    rw [hQ]
    exact ret_z C hr hlk hw h (by decide) dX8_hasBit_13
theorem hy_X8_moved : yX8_moved.cls ≠ "java/lang/invoke/MethodHandle" ∧ yX8_moved.cls ≠ "java/lang/invoke/VarHandle" ∧ (parseMethodDescriptor yX8_moved.desc).map (fun d => d.parameters.length) = some 3 := by decide +kernel
def wp_X8_moved (w : Wd) (p0 : Int32) (p1 : Int32) (p2 : Int32) (Post : Int32 → Wd → Prop) : Prop :=
  Post (((p0 &&& (((1 : Int32) <<< (p1 &&& 31)) ^^^ ((-1)))) ||| ((1 : Int32) <<< (p2 &&& 31))) &&& ((-2))) w
set_option maxHeartbeats 4000000 in
set_option maxRecDepth 100000 in
theorem mt_X8_moved (l : Launch) {E : En} (hI : Inj E) (w : Wd) (p0 : Int32) (p1 : Int32) (p2 : Int32) {Post : Int32 → Wd → Prop} (h : wp_X8_moved w p0 p1 p2 Post) : MI l E yX8_moved cX8_moved 3 (some .int) 0 0 [.int p0, .int p1, .int p2] w Post := by
  refine MG.intro hI (by decide +kernel) (Nat.le_of_ble_eq_true rfl) ?_
  intro p e s m args below meth c Q C hr hlk hQ hw ls hl
  have hx := C.1
  have hb := C.2.1
  have hl : lv_has ls 3 [(0, .int p0), (1, .int p1), (2, .int p2)] := hl
  unfold wp_X8_moved at h
  refine lv_iload_n hx hb dX8_moved_0 rfl (lv_at hl 0 rfl) ?_
  refine lv_iconst (v := 1) hx hb dX8_moved_1 (by decide) ?_
  refine lv_iload_n hx hb dX8_moved_2 rfl (lv_at hl 1 rfl) ?_
  refine lv_ishl hx hb dX8_moved_3 ?_
  refine lv_iconst (v := (-1)) hx hb dX8_moved_4 (by decide) ?_
  refine lv_ixor hx hb dX8_moved_5 ?_
  refine lv_iand hx hb dX8_moved_6 ?_
  refine lv_iconst (v := 1) hx hb dX8_moved_7 (by decide) ?_
  refine lv_iload_n hx hb dX8_moved_8 rfl (lv_at hl 2 rfl) ?_
  refine lv_ishl hx hb dX8_moved_9 ?_
  refine lv_ior hx hb dX8_moved_10 ?_
  refine lv_bipush (v := (-2)) hx hb dX8_moved_11 (by decide) ?_
  refine lv_iand hx hb dX8_moved_13 ?_
  rw [hQ]
  exact ret_i C hr hlk hw h dX8_moved_14
theorem hy_J6_bitCount_0f7a4 : yJ6_bitCount_0f7a4.cls ≠ "java/lang/invoke/MethodHandle" ∧ yJ6_bitCount_0f7a4.cls ≠ "java/lang/invoke/VarHandle" ∧ (parseMethodDescriptor yJ6_bitCount_0f7a4.desc).map (fun d => d.parameters.length) = some 1 := by decide +kernel
def wp_J6_bitCount_0f7a4 (w : Wd) (p0 : Int32) (Post : Int32 → Wd → Prop) : Prop :=
  ∀ y1 : Int32, y1 = p0 - (((p0.toUInt32 >>> ((1 : Int32).toUInt32 &&& Int32.toUInt32 31)).toInt32) &&& 1431655765) → (∀ y2 : Int32, y2 = (y1 &&& 858993459) + (((y1.toUInt32 >>> ((2 : Int32).toUInt32 &&& Int32.toUInt32 31)).toInt32) &&& 858993459) → (∀ y3 : Int32, y3 = (y2 + ((y2.toUInt32 >>> ((4 : Int32).toUInt32 &&& Int32.toUInt32 31)).toInt32)) &&& 252645135 → (∀ y4 : Int32, y4 = y3 + ((y3.toUInt32 >>> ((8 : Int32).toUInt32 &&& Int32.toUInt32 31)).toInt32) → (∀ y5 : Int32, y5 = y4 + ((y4.toUInt32 >>> ((16 : Int32).toUInt32 &&& Int32.toUInt32 31)).toInt32) → (Post (y5 &&& 63) w)))))
set_option maxHeartbeats 4000000 in
set_option maxRecDepth 100000 in
theorem mt_J6_bitCount_0f7a4 (l : Launch) {E : En} (hI : Inj E) (w : Wd) (p0 : Int32) {Post : Int32 → Wd → Prop} (h : wp_J6_bitCount_0f7a4 w p0 Post) : MI l E yJ6_bitCount_0f7a4 cJ6_bitCount_0f7a4 1 (some .int) 0 0 [.int p0] w Post := by
  refine MG.intro hI (by decide +kernel) (Nat.le_of_ble_eq_true rfl) ?_
  intro p e s m args below meth c Q C hr hlk hQ hw ls hl
  have hx := C.1
  have hb := C.2.1
  have hl : lv_has ls 1 [(0, .int p0)] := hl
  unfold wp_J6_bitCount_0f7a4 at h
  refine lv_iload_n hx hb dJ6_bitCount_0f7a4_0 rfl (lv_at hl 0 rfl) ?_
  refine lv_iload_n hx hb dJ6_bitCount_0f7a4_1 rfl (lv_at hl 0 rfl) ?_
  refine lv_iconst (v := 1) hx hb dJ6_bitCount_0f7a4_2 (by decide) ?_
  refine lv_iushr (v := (p0.toUInt32 >>> ((1 : Int32).toUInt32 &&& Int32.toUInt32 31)).toInt32) hx hb dJ6_bitCount_0f7a4_3 rfl ?_
  refine lv_ldcw (v := 1431655765) hx hb C.2.2.2.1 (C.2.2.2.2.1 _ K_t_J6_265) dJ6_bitCount_0f7a4_4 ?_
  refine lv_iand hx hb dJ6_bitCount_0f7a4_7 ?_
  refine lv_isub hx hb dJ6_bitCount_0f7a4_8 ?_
  refine lv_topi (fun y1 ey1 => ?_)
  have h := h y1 ey1
  refine lv_istore_n (lv' := [(0, .int y1)]) hx hb dJ6_bitCount_0f7a4_9 rfl hl (by decide) rfl (fun ls hl => ?_)
  refine lv_iload_n hx hb dJ6_bitCount_0f7a4_10 rfl (lv_at hl 0 rfl) ?_
  refine lv_ldcw (v := 858993459) hx hb C.2.2.2.1 (C.2.2.2.2.1 _ K_t_J6_266) dJ6_bitCount_0f7a4_11 ?_
  refine lv_iand hx hb dJ6_bitCount_0f7a4_14 ?_
  refine lv_iload_n hx hb dJ6_bitCount_0f7a4_15 rfl (lv_at hl 0 rfl) ?_
  refine lv_iconst (v := 2) hx hb dJ6_bitCount_0f7a4_16 (by decide) ?_
  refine lv_iushr (v := (y1.toUInt32 >>> ((2 : Int32).toUInt32 &&& Int32.toUInt32 31)).toInt32) hx hb dJ6_bitCount_0f7a4_17 rfl ?_
  refine lv_ldcw (v := 858993459) hx hb C.2.2.2.1 (C.2.2.2.2.1 _ K_t_J6_266) dJ6_bitCount_0f7a4_18 ?_
  refine lv_iand hx hb dJ6_bitCount_0f7a4_21 ?_
  refine lv_iadd hx hb dJ6_bitCount_0f7a4_22 ?_
  refine lv_topi (fun y2 ey2 => ?_)
  have h := h y2 ey2
  refine lv_istore_n (lv' := [(0, .int y2)]) hx hb dJ6_bitCount_0f7a4_23 rfl hl (by decide) rfl (fun ls hl => ?_)
  refine lv_iload_n hx hb dJ6_bitCount_0f7a4_24 rfl (lv_at hl 0 rfl) ?_
  refine lv_iload_n hx hb dJ6_bitCount_0f7a4_25 rfl (lv_at hl 0 rfl) ?_
  refine lv_iconst (v := 4) hx hb dJ6_bitCount_0f7a4_26 (by decide) ?_
  refine lv_iushr (v := (y2.toUInt32 >>> ((4 : Int32).toUInt32 &&& Int32.toUInt32 31)).toInt32) hx hb dJ6_bitCount_0f7a4_27 rfl ?_
  refine lv_iadd hx hb dJ6_bitCount_0f7a4_28 ?_
  refine lv_ldcw (v := 252645135) hx hb C.2.2.2.1 (C.2.2.2.2.1 _ K_t_J6_267) dJ6_bitCount_0f7a4_29 ?_
  refine lv_iand hx hb dJ6_bitCount_0f7a4_32 ?_
  refine lv_topi (fun y3 ey3 => ?_)
  have h := h y3 ey3
  refine lv_istore_n (lv' := [(0, .int y3)]) hx hb dJ6_bitCount_0f7a4_33 rfl hl (by decide) rfl (fun ls hl => ?_)
  refine lv_iload_n hx hb dJ6_bitCount_0f7a4_34 rfl (lv_at hl 0 rfl) ?_
  refine lv_iload_n hx hb dJ6_bitCount_0f7a4_35 rfl (lv_at hl 0 rfl) ?_
  refine lv_bipush (v := 8) hx hb dJ6_bitCount_0f7a4_36 (by decide) ?_
  refine lv_iushr (v := (y3.toUInt32 >>> ((8 : Int32).toUInt32 &&& Int32.toUInt32 31)).toInt32) hx hb dJ6_bitCount_0f7a4_38 rfl ?_
  refine lv_iadd hx hb dJ6_bitCount_0f7a4_39 ?_
  refine lv_topi (fun y4 ey4 => ?_)
  have h := h y4 ey4
  refine lv_istore_n (lv' := [(0, .int y4)]) hx hb dJ6_bitCount_0f7a4_40 rfl hl (by decide) rfl (fun ls hl => ?_)
  refine lv_iload_n hx hb dJ6_bitCount_0f7a4_41 rfl (lv_at hl 0 rfl) ?_
  refine lv_iload_n hx hb dJ6_bitCount_0f7a4_42 rfl (lv_at hl 0 rfl) ?_
  refine lv_bipush (v := 16) hx hb dJ6_bitCount_0f7a4_43 (by decide) ?_
  refine lv_iushr (v := (y4.toUInt32 >>> ((16 : Int32).toUInt32 &&& Int32.toUInt32 31)).toInt32) hx hb dJ6_bitCount_0f7a4_45 rfl ?_
  refine lv_iadd hx hb dJ6_bitCount_0f7a4_46 ?_
  refine lv_topi (fun y5 ey5 => ?_)
  have h := h y5 ey5
  refine lv_istore_n (lv' := [(0, .int y5)]) hx hb dJ6_bitCount_0f7a4_47 rfl hl (by decide) rfl (fun ls hl => ?_)
  refine lv_iload_n hx hb dJ6_bitCount_0f7a4_48 rfl (lv_at hl 0 rfl) ?_
  refine lv_bipush (v := 63) hx hb dJ6_bitCount_0f7a4_49 (by decide) ?_
  refine lv_iand hx hb dJ6_bitCount_0f7a4_51 ?_
  rw [hQ]
  exact ret_i C hr hlk hw h dJ6_bitCount_0f7a4_52
theorem hy_X4_targetsOf : yX4_targetsOf.cls ≠ "java/lang/invoke/MethodHandle" ∧ yX4_targetsOf.cls ≠ "java/lang/invoke/VarHandle" ∧ (parseMethodDescriptor yX4_targetsOf.desc).map (fun d => d.parameters.length) = some 3 := by decide +kernel
def wp_X4_targetsOf (w : Wd) (p0 : Int32) (p1 : Int32) (p2 : Int32) (Post : Int32 → Wd → Prop) : Prop :=
  Post ((p0 >>> (p2 &&& 31)) &&& ((p0 ||| p1) ^^^ ((-1)))) w
set_option maxHeartbeats 4000000 in
set_option maxRecDepth 100000 in
theorem mt_X4_targetsOf (l : Launch) {E : En} (hI : Inj E) (w : Wd) (p0 : Int32) (p1 : Int32) (p2 : Int32) {Post : Int32 → Wd → Prop} (h : wp_X4_targetsOf w p0 p1 p2 Post) : MI l E yX4_targetsOf cX4_targetsOf 3 (some .int) 0 0 [.int p0, .int p1, .int p2] w Post := by
  refine MG.intro hI (by decide +kernel) (Nat.le_of_ble_eq_true rfl) ?_
  intro p e s m args below meth c Q C hr hlk hQ hw ls hl
  have hx := C.1
  have hb := C.2.1
  have hl : lv_has ls 3 [(0, .int p0), (1, .int p1), (2, .int p2)] := hl
  unfold wp_X4_targetsOf at h
  refine lv_iload_n hx hb dX4_targetsOf_0 rfl (lv_at hl 0 rfl) ?_
  refine lv_iload_n hx hb dX4_targetsOf_1 rfl (lv_at hl 2 rfl) ?_
  refine lv_ishr hx hb dX4_targetsOf_2 ?_
  refine lv_iload_n hx hb dX4_targetsOf_3 rfl (lv_at hl 0 rfl) ?_
  refine lv_iload_n hx hb dX4_targetsOf_4 rfl (lv_at hl 1 rfl) ?_
  refine lv_ior hx hb dX4_targetsOf_5 ?_
  refine lv_iconst (v := (-1)) hx hb dX4_targetsOf_6 (by decide) ?_
  refine lv_ixor hx hb dX4_targetsOf_7 ?_
  refine lv_iand hx hb dX4_targetsOf_8 ?_
  rw [hQ]
  exact ret_i C hr hlk hw h dX4_targetsOf_9
theorem hy_X4_rankOf : yX4_rankOf.cls ≠ "java/lang/invoke/MethodHandle" ∧ yX4_rankOf.cls ≠ "java/lang/invoke/VarHandle" ∧ (parseMethodDescriptor yX4_rankOf.desc).map (fun d => d.parameters.length) = some 1 := by decide +kernel
def wp_X4_rankOf (w : Wd) (p0 : Int32) (Post : Int32 → Wd → Prop) : Prop :=
  ∀ J7 : Int32 → Int32 → Int32 → Wd → Prop, (∀ (x1 : Int32) (x2 : Int32) (x3 : Int32) (w : Wd), ((x3 ≤ 0 → ((299 ≤ x1 → (Post 0 w)) ∧ (¬ 299 ≤ x1 → (Post x1 w)))) ∧ (¬ x3 ≤ 0 → ((x2 ≤ 0 → ((299 ≤ x1 → (Post 0 w)) ∧ (¬ 299 ≤ x1 → (Post x1 w)))) ∧ (¬ x2 ≤ 0 → ((((p0 >>> (x3 &&& 31)) &&& 1) = 0 → (∀ y1 : Int32, y1 = x3 + (-1) → (J7 x1 x2 y1 w))) ∧ (¬ ((p0 >>> (x3 &&& 31)) &&& 1) = 0 → (∀ y2 : Int32, y2 = x2 + (-1) → (vp_in ((y2 * 13) + x3) 39 ∧ (∀ y3 : Int32, y3 = x1 + (sbTab ((y2 * 13) + x3).toNatClampNeg) → (∀ y4 : Int32, y4 = x3 + (-1) → (J7 y3 y2 y4 w))))))))))) → J7 x1 x2 x3 w) →
  J7 0 3 12 w
set_option maxHeartbeats 4000000 in
set_option maxRecDepth 100000 in
theorem mt_X4_rankOf (l : Launch) {E : En} (hI : Inj E) (w : Wd) (p0 : Int32) {Post : Int32 → Wd → Prop} (h : wp_X4_rankOf w p0 Post) : MI l E yX4_rankOf cX4_rankOf 4 (some .int) 0 0 [.int p0] w Post := by
  refine MG.intro hI (by decide +kernel) (Nat.le_of_ble_eq_true rfl) ?_
  intro p e s m args below meth c Q C hr hlk hQ hw ls hl
  have hx := C.1
  have hb := C.2.1
  have hl : lv_has ls 4 [(0, .int p0)] := hl
  unfold wp_X4_rankOf at h
  have h := h (fun x1 x2 x3 w => Jp E p l e (Rm 0 0) s m args below meth c Q 4 7 [(0, .int p0), (1, .int x1), (2, .int x2), (3, .int x3)] w)
  have h := h ?_
  rotate_left
  · intro x1 x2 x3 w h H locs hw ls hl
    refine lv_iload_n hx hb dX4_rankOf_7 rfl (lv_at hl 3 rfl) ?_
    refine lv_if_le (tgt := 45) hx hb dX4_rankOf_8 (by decide) (fun c1 => ?_) (fun c1 => ?_)
    · have h := h.1 c1
      refine lv_iload_n hx hb dX4_rankOf_45 rfl (lv_at hl 1 rfl) ?_
      refine lv_sipush (v := 299) hx hb dX4_rankOf_46 (by decide) ?_
      refine lv_icmp_ge (tgt := 56) hx hb dX4_rankOf_49 (by decide) (fun c2 => ?_) (fun c2 => ?_)
      · have h := h.1 c2
        refine lv_iconst (v := 0) hx hb dX4_rankOf_56 (by decide) ?_
        rw [hQ]
        exact ret_i C hr hlk hw h dX4_rankOf_57
      · have h := h.2 c2
        refine lv_iload_n hx hb dX4_rankOf_52 rfl (lv_at hl 1 rfl) ?_
        refine lv_goto (tgt := 57) hx hb dX4_rankOf_53 (by decide) ?_
        rw [hQ]
        exact ret_i C hr hlk hw h dX4_rankOf_57
    · have h := h.2 c1
      refine lv_iload_n hx hb dX4_rankOf_11 rfl (lv_at hl 2 rfl) ?_
      refine lv_if_le (tgt := 45) hx hb dX4_rankOf_12 (by decide) (fun c3 => ?_) (fun c3 => ?_)
      · have h := h.1 c3
        refine lv_iload_n hx hb dX4_rankOf_45 rfl (lv_at hl 1 rfl) ?_
        refine lv_sipush (v := 299) hx hb dX4_rankOf_46 (by decide) ?_
        refine lv_icmp_ge (tgt := 56) hx hb dX4_rankOf_49 (by decide) (fun c4 => ?_) (fun c4 => ?_)
        · have h := h.1 c4
          refine lv_iconst (v := 0) hx hb dX4_rankOf_56 (by decide) ?_
          rw [hQ]
          exact ret_i C hr hlk hw h dX4_rankOf_57
        · have h := h.2 c4
          refine lv_iload_n hx hb dX4_rankOf_52 rfl (lv_at hl 1 rfl) ?_
          refine lv_goto (tgt := 57) hx hb dX4_rankOf_53 (by decide) ?_
          rw [hQ]
          exact ret_i C hr hlk hw h dX4_rankOf_57
      · have h := h.2 c3
        refine lv_iload_n hx hb dX4_rankOf_15 rfl (lv_at hl 0 rfl) ?_
        refine lv_iload_n hx hb dX4_rankOf_16 rfl (lv_at hl 3 rfl) ?_
        refine lv_ishr hx hb dX4_rankOf_17 ?_
        refine lv_iconst (v := 1) hx hb dX4_rankOf_18 (by decide) ?_
        refine lv_iand hx hb dX4_rankOf_19 ?_
        refine lv_if_eq (tgt := 39) hx hb dX4_rankOf_20 (by decide) (fun c5 => ?_) (fun c5 => ?_)
        · have h := h.1 c5
          obtain ⟨y1, ey1⟩ : ∃ y : Int32, y = x3 + (-1) := ⟨_, rfl⟩
          have h := h y1 ey1
          refine lv_iinc (v := y1) (lv' := [(3, .int y1), (0, .int p0), (1, .int x1), (2, .int x2)]) hx hb dX4_rankOf_39 hl (k := 3) rfl (by rw [ey1]; first | rfl | decide) (by decide) rfl (fun ls hl => ?_)
          refine lv_goto (tgt := 7) hx hb dX4_rankOf_42 (by decide) ?_
          exact h _ _ hw _ (lv_sub hl [1, 2, 3, 0] rfl)
        · have h := h.2 c5
          obtain ⟨y2, ey2⟩ : ∃ y : Int32, y = x2 + (-1) := ⟨_, rfl⟩
          have h := h y2 ey2
          refine lv_iinc (v := y2) (lv' := [(2, .int y2), (0, .int p0), (1, .int x1), (3, .int x3)]) hx hb dX4_rankOf_23 hl (k := 2) rfl (by rw [ey2]; first | rfl | decide) (by decide) rfl (fun ls hl => ?_)
          refine lv_iload_n hx hb dX4_rankOf_26 rfl (lv_at hl 2 rfl) ?_
          refine r_gsb C hw dX4_rankOf_27 ?_
          refine lv_iload_n hx hb dX4_rankOf_30 rfl (lv_at hl 0 rfl) ?_
          refine lv_bipush (v := 13) hx hb dX4_rankOf_31 (by decide) ?_
          refine lv_imul hx hb dX4_rankOf_33 ?_
          refine lv_iload_n hx hb dX4_rankOf_34 rfl (lv_at hl 3 rfl) ?_
          refine lv_iadd hx hb dX4_rankOf_35 ?_
          obtain ⟨hi1, h⟩ := h
          refine r_tsb C hw hi1 dX4_rankOf_36 ?_
          refine lv_iadd hx hb dX4_rankOf_37 ?_
          refine lv_topi (fun y3 ey3 => ?_)
          have h := h y3 ey3
          refine lv_istore_n (lv' := [(1, .int y3), (2, .int y2), (0, .int p0), (3, .int x3)]) hx hb dX4_rankOf_38 rfl hl (by decide) rfl (fun ls hl => ?_)
          obtain ⟨y4, ey4⟩ : ∃ y : Int32, y = x3 + (-1) := ⟨_, rfl⟩
          have h := h y4 ey4
          refine lv_iinc (v := y4) (lv' := [(3, .int y4), (1, .int y3), (2, .int y2), (0, .int p0)]) hx hb dX4_rankOf_39 hl (k := 3) rfl (by rw [ey4]; first | rfl | decide) (by decide) rfl (fun ls hl => ?_)
          refine lv_goto (tgt := 7) hx hb dX4_rankOf_42 (by decide) ?_
          exact h _ _ hw _ (lv_sub hl [3, 1, 2, 0] rfl)
  refine lv_iconst (v := 0) hx hb dX4_rankOf_0 (by decide) ?_
  refine lv_istore_n (lv' := [(1, .int 0), (0, .int p0)]) hx hb dX4_rankOf_1 rfl hl (by decide) rfl (fun ls hl => ?_)
  refine lv_iconst (v := 3) hx hb dX4_rankOf_2 (by decide) ?_
  refine lv_istore_n (lv' := [(2, .int 3), (1, .int 0), (0, .int p0)]) hx hb dX4_rankOf_3 rfl hl (by decide) rfl (fun ls hl => ?_)
  refine lv_bipush (v := 12) hx hb dX4_rankOf_4 (by decide) ?_
  refine lv_istore_n (lv' := [(3, .int 12), (2, .int 3), (1, .int 0), (0, .int p0)]) hx hb dX4_rankOf_6 rfl hl (by decide) rfl (fun ls hl => ?_)
  exact h _ _ hw _ (lv_sub hl [3, 2, 1, 0] rfl)
theorem hy_J7_fill_53178 : yJ7_fill_53178.cls ≠ "java/lang/invoke/MethodHandle" ∧ yJ7_fill_53178.cls ≠ "java/lang/invoke/VarHandle" ∧ (parseMethodDescriptor yJ7_fill_53178.desc).map (fun d => d.parameters.length) = some 2 := by decide +kernel
def wp_J7_fill_53178 (o0 n0 : Nat) (w : Wd) (p1 : Int32) (Post : Wd → Prop) : Prop :=
  ∀ J5 : Int32 → Int32 → Wd → Prop, (∀ (x2 : Int32) (x3 : Int32) (w : Wd), ((x3 ≤ x2 → (Post w)) ∧ (¬ x3 ≤ x2 → (vp_in x2 n0 ∧ (∀ y2 : Int32, y2 = x2 + 1 → (J5 y2 x3 (sA w o0 x2.toNatClampNeg p1)))))) → J5 x2 x3 w) →
  ∀ y1 : Int32, y1 = nI n0 → (J5 0 y1 w)
set_option maxHeartbeats 4000000 in
set_option maxRecDepth 100000 in
theorem mt_J7_fill_53178 (l : Launch) {E : En} (hI : Inj E) (o0 n0 : Nat) (ho0 : o0 ∈ eL E) (hc0 : ∀ w, ce E w o0 = .inl (eC E 0, n0, .inl (w.2.1 o0))) (w : Wd) (p1 : Int32) {Post : Wd → Prop} (h : wp_J7_fill_53178 o0 n0 w p1 Post) : MV l E yJ7_fill_53178 cJ7_fill_53178 4 none 0 0 [.ref (eA E o0), .int p1] w Post := by
  refine MG.intro hI (by decide +kernel) (Nat.le_of_ble_eq_true rfl) ?_
  intro p e s m args below meth c Q C hr hlk hQ hw ls hl
  have hx := C.1
  have hb := C.2.1
  have hl : lv_has ls 4 [(0, .ref (eA E o0)), (1, .int p1)] := hl
  unfold wp_J7_fill_53178 at h
  have h := h (fun x2 x3 w => Jp E p l e (Rm 0 0) s m args below meth c Q 4 5 [(0, .ref (eA E o0)), (1, .int p1), (2, .int x2), (3, .int x3)] w)
  have h := h ?_
  rotate_left
  · intro x2 x3 w h H locs hw ls hl
    refine lv_iload_n hx hb dJ7_fill_53178_5 rfl (lv_at hl 2 rfl) ?_
    refine lv_iload_n hx hb dJ7_fill_53178_6 rfl (lv_at hl 3 rfl) ?_
    refine lv_icmp_ge (tgt := 20) hx hb dJ7_fill_53178_7 (by decide) (fun c1 => ?_) (fun c1 => ?_)
    · have h := h.1 c1
      rw [hQ]
      exact ret_v C hr hlk hw h dJ7_fill_53178_20
    · have h := h.2 c1
      refine lv_aload_n hx hb dJ7_fill_53178_10 rfl (lv_at hl 0 rfl) ?_
      refine lv_iload_n hx hb dJ7_fill_53178_11 rfl (lv_at hl 2 rfl) ?_
      refine lv_iload_n hx hb dJ7_fill_53178_12 rfl (lv_at hl 1 rfl) ?_
      obtain ⟨hi1, h⟩ := h
      refine r_iast C hw o0 n0 ho0 hc0 hi1 dJ7_fill_53178_13 (fun H locs hw => ?_)
      obtain ⟨y2, ey2⟩ : ∃ y : Int32, y = x2 + 1 := ⟨_, rfl⟩
      have h := h y2 ey2
      refine lv_iinc (v := y2) (lv' := [(2, .int y2), (0, .ref (eA E o0)), (1, .int p1), (3, .int x3)]) hx hb dJ7_fill_53178_14 hl (k := 2) rfl (by rw [ey2]; first | rfl | decide) (by decide) rfl (fun ls hl => ?_)
      refine lv_goto (tgt := 5) hx hb dJ7_fill_53178_17 (by decide) ?_
      exact h _ _ hw _ (lv_sub hl [1, 2, 0, 3] rfl)
  refine lv_iconst (v := 0) hx hb dJ7_fill_53178_0 (by decide) ?_
  refine lv_istore_n (lv' := [(2, .int 0), (0, .ref (eA E o0)), (1, .int p1)]) hx hb dJ7_fill_53178_1 rfl hl (by decide) rfl (fun ls hl => ?_)
  refine lv_aload_n hx hb dJ7_fill_53178_2 rfl (lv_at hl 1 rfl) ?_
  refine r_alen C hw o0 0 ho0 (hc0 _) rfl (v := nI n0) rfl dJ7_fill_53178_3 ?_
  refine lv_topi (fun y1 ey1 => ?_)
  have h := h y1 ey1
  refine lv_istore_n (lv' := [(3, .int y1), (2, .int 0), (0, .ref (eA E o0)), (1, .int p1)]) hx hb dJ7_fill_53178_4 rfl hl (by decide) rfl (fun ls hl => ?_)
  exact h _ _ hw _ (lv_sub hl [2, 3, 1, 0] rfl)
theorem hy_X7_ban : yX7_ban.cls ≠ "java/lang/invoke/MethodHandle" ∧ yX7_ban.cls ≠ "java/lang/invoke/VarHandle" ∧ (parseMethodDescriptor yX7_ban.desc).map (fun d => d.parameters.length) = some 3 := by decide +kernel
def wp_X7_ban (k : Nat) (w : Wd) (p1 : Int32) (p2 : Int32) (p3 : Int32) (Post : Wd → Prop) : Prop :=
  Post (sI (sI (sI w (53 + 8 * k) 9 p1) (53 + 8 * k) 10 p2) (53 + 8 * k) 11 p3)
set_option maxHeartbeats 4000000 in
set_option maxRecDepth 100000 in
theorem mt_X7_ban (l : Launch) {E : En} (hI : Inj E) (k : Nat) (hk : k < 13) (hF : ∀ o, (53 + 8 * k ≤ o ∧ o < 61 + 8 * k) → o ∈ eL E) (w : Wd) (p1 : Int32) (p2 : Int32) (p3 : Int32) {Post : Wd → Prop} (h : wp_X7_ban k w p1 p2 p3 Post) : MV l E yX7_ban cX7_ban 4 none 0 0 [.ref (eA E ((53 + 8 * k))), .int p1, .int p2, .int p3] w Post := by
  refine MG.intro hI (by decide +kernel) (Nat.le_of_ble_eq_true rfl) ?_
  intro p e s m args below meth c Q C hr hlk hQ hw ls hl
  have hx := C.1
  have hb := C.2.1
  have hl : lv_has ls 4 [(0, .ref (eA E ((53 + 8 * k)))), (1, .int p1), (2, .int p2), (3, .int p3)] := hl
  unfold wp_X7_ban at h
  refine lv_aload_n hx hb dX7_ban_0 rfl (lv_at hl 0 rfl) ?_
  refine lv_iload_n hx hb dX7_ban_1 rfl (lv_at hl 1 rfl) ?_
  refine p7_9 C hw k hk (hF _ (by have := hk; omega)) K_f_X7_64 dX7_ban_2 (fun H locs hw => ?_)
  refine lv_aload_n hx hb dX7_ban_5 rfl (lv_at hl 0 rfl) ?_
  refine lv_iload_n hx hb dX7_ban_6 rfl (lv_at hl 2 rfl) ?_
  refine p7_10 C hw k hk (hF _ (by have := hk; omega)) K_f_X7_67 dX7_ban_7 (fun H locs hw => ?_)
  refine lv_aload_n hx hb dX7_ban_10 rfl (lv_at hl 0 rfl) ?_
  refine lv_iload_n hx hb dX7_ban_11 rfl (lv_at hl 3 rfl) ?_
  refine p7_11 C hw k hk (hF _ (by have := hk; omega)) K_f_X7_70 dX7_ban_12 (fun H locs hw => ?_)
  rw [hQ]
  exact ret_v C hr hlk hw h dX7_ban_15
theorem hy_X7_isBanned : yX7_isBanned.cls ≠ "java/lang/invoke/MethodHandle" ∧ yX7_isBanned.cls ≠ "java/lang/invoke/VarHandle" ∧ (parseMethodDescriptor yX7_isBanned.desc).map (fun d => d.parameters.length) = some 3 := by decide +kernel
def wp_X7_isBanned (k : Nat) (w : Wd) (p1 : Int32) (p2 : Int32) (p3 : Int32) (Post : Int32 → Wd → Prop) : Prop :=
  (p1 = (gI w (53 + 8 * k) 9) → ((p2 = (gI w (53 + 8 * k) 10) → ((p3 = (gI w (53 + 8 * k) 11) → (Post 1 w)) ∧ (¬ p3 = (gI w (53 + 8 * k) 11) → (Post 0 w)))) ∧ (¬ p2 = (gI w (53 + 8 * k) 10) → (Post 0 w)))) ∧ (¬ p1 = (gI w (53 + 8 * k) 9) → (Post 0 w))
set_option maxHeartbeats 4000000 in
set_option maxRecDepth 100000 in
theorem mt_X7_isBanned (l : Launch) {E : En} (hI : Inj E) (hF : ∀ o, (o < 15 ∨ 27 ≤ o ∧ o < 157) → o ∈ eL E) (k : Nat) (hk : k < 13) (w : Wd) (p1 : Int32) (p2 : Int32) (p3 : Int32) {Post : Int32 → Wd → Prop} (h : wp_X7_isBanned k w p1 p2 p3 Post) : MI l E yX7_isBanned cX7_isBanned 4 (some .boolean) 0 0 [.ref (eA E ((53 + 8 * k))), .int p1, .int p2, .int p3] w Post := by
  refine MG.intro hI (by decide +kernel) (Nat.le_of_ble_eq_true rfl) ?_
  intro p e s m args below meth c Q C hr hlk hQ hw ls hl
  have hx := C.1
  have hb := C.2.1
  have hl : lv_has ls 4 [(0, .ref (eA E ((53 + 8 * k)))), (1, .int p1), (2, .int p2), (3, .int p3)] := hl
  unfold wp_X7_isBanned at h
  refine lv_iload_n hx hb dX7_isBanned_0 rfl (lv_at hl 1 rfl) ?_
  refine lv_aload_n hx hb dX7_isBanned_1 rfl (lv_at hl 0 rfl) ?_
  refine g7_9 C hw k hk (hF _ (by have := hk; omega)) K_f_X7_64 dX7_isBanned_2 ?_
  refine lv_icmp_ne (tgt := 28) hx hb dX7_isBanned_5 (by decide) (fun c1 => ?_) (fun c1 => ?_)
  · have h := h.2 c1
    refine lv_iconst (v := 0) hx hb dX7_isBanned_28 (by decide) ?_
    rw [hQ]
    exact ret_z C hr hlk hw h (by decide) dX7_isBanned_29
  · have h := h.1 c1
    refine lv_iload_n hx hb dX7_isBanned_8 rfl (lv_at hl 2 rfl) ?_
    refine lv_aload_n hx hb dX7_isBanned_9 rfl (lv_at hl 0 rfl) ?_
    refine g7_10 C hw k hk (hF _ (by have := hk; omega)) K_f_X7_67 dX7_isBanned_10 ?_
    refine lv_icmp_ne (tgt := 28) hx hb dX7_isBanned_13 (by decide) (fun c2 => ?_) (fun c2 => ?_)
    · have h := h.2 c2
      refine lv_iconst (v := 0) hx hb dX7_isBanned_28 (by decide) ?_
      rw [hQ]
      exact ret_z C hr hlk hw h (by decide) dX7_isBanned_29
    · have h := h.1 c2
      refine lv_iload_n hx hb dX7_isBanned_16 rfl (lv_at hl 3 rfl) ?_
      refine lv_aload_n hx hb dX7_isBanned_17 rfl (lv_at hl 0 rfl) ?_
      refine g7_11 C hw k hk (hF _ (by have := hk; omega)) K_f_X7_70 dX7_isBanned_18 ?_
      refine lv_icmp_ne (tgt := 28) hx hb dX7_isBanned_21 (by decide) (fun c3 => ?_) (fun c3 => ?_)
      · have h := h.2 c3
        refine lv_iconst (v := 0) hx hb dX7_isBanned_28 (by decide) ?_
        rw [hQ]
        exact ret_z C hr hlk hw h (by decide) dX7_isBanned_29
      · have h := h.1 c3
        refine lv_iconst (v := 1) hx hb dX7_isBanned_24 (by decide) ?_
        refine lv_goto (tgt := 29) hx hb dX7_isBanned_25 (by decide) ?_
        rw [hQ]
        exact ret_z C hr hlk hw h (by decide) dX7_isBanned_29
theorem hy_X7_addToCount : yX7_addToCount.cls ≠ "java/lang/invoke/MethodHandle" ∧ yX7_addToCount.cls ≠ "java/lang/invoke/VarHandle" ∧ (parseMethodDescriptor yX7_addToCount.desc).map (fun d => d.parameters.length) = some 2 := by decide +kernel
def wp_X7_addToCount (k : Nat) (w : Wd) (p1 : Int32) (p2 : Int32) (Post : Wd → Prop) : Prop :=
  ∀ y1 : Int32, y1 = ((gI w (53 + 8 * k) 7) * 3) + p1 → (vp_in y1 6 ∧ (∀ y2 : Int32, y2 = (gA w (53 + 8 * k + 6) y1.toNatClampNeg) + p2 → (vp_in y1 6 ∧ (Post (sA w (53 + 8 * k + 6) y1.toNatClampNeg y2)))))
set_option maxHeartbeats 4000000 in
set_option maxRecDepth 100000 in
theorem mt_X7_addToCount (l : Launch) {E : En} (hI : Inj E) (hF : ∀ o, (o < 15 ∨ 27 ≤ o ∧ o < 157) → o ∈ eL E) (k : Nat) (hk : k < 13) (w : Wd) (p1 : Int32) (p2 : Int32) {Post : Wd → Prop} (h : wp_X7_addToCount k w p1 p2 Post) : MV l E yX7_addToCount cX7_addToCount 3 none 0 0 [.ref (eA E ((53 + 8 * k))), .int p1, .int p2] w Post := by
  refine MG.intro hI (by decide +kernel) (Nat.le_of_ble_eq_true rfl) ?_
  intro p e s m args below meth c Q C hr hlk hQ hw ls hl
  have hx := C.1
  have hb := C.2.1
  have hl : lv_has ls 3 [(0, .ref (eA E ((53 + 8 * k)))), (1, .int p1), (2, .int p2)] := hl
  unfold wp_X7_addToCount at h
  refine lv_aload_n hx hb dX7_addToCount_0 rfl (lv_at hl 0 rfl) ?_
  refine g7_5 C hw k hk (hF _ (by have := hk; omega)) K_f_X7_27 dX7_addToCount_1 ?_
  refine lv_aload_n hx hb dX7_addToCount_4 rfl (lv_at hl 0 rfl) ?_
  refine g7_7 C hw k hk (hF _ (by have := hk; omega)) K_f_X7_58 dX7_addToCount_5 ?_
  refine lv_iconst (v := 3) hx hb dX7_addToCount_8 (by decide) ?_
  refine lv_imul hx hb dX7_addToCount_9 ?_
  refine lv_iload_n hx hb dX7_addToCount_10 rfl (lv_at hl 1 rfl) ?_
  refine lv_iadd hx hb dX7_addToCount_11 ?_
  refine lv_topi (fun y1 ey1 => ?_)
  have h := h y1 ey1
  refine lv_dup2_11 hx hb dX7_addToCount_12 rfl rfl ?_
  obtain ⟨hi1, h⟩ := h
  refine r_iald C hw (53 + 8 * k + 6) 6 (hF _ (by have := hk; omega)) (ce_sta 6 hk (by decide) (by decide)) hi1 dX7_addToCount_13 ?_
  refine lv_iload_n hx hb dX7_addToCount_14 rfl (lv_at hl 2 rfl) ?_
  refine lv_iadd hx hb dX7_addToCount_15 ?_
  refine lv_topi (fun y2 ey2 => ?_)
  have h := h y2 ey2
  obtain ⟨hi2, h⟩ := h
  refine r_iast C hw (53 + 8 * k + 6) 6 (hF _ (by have := hk; omega)) (fun _ => ce_sta 6 hk (by decide) (by decide)) hi2 dX7_addToCount_16 (fun H locs hw => ?_)
  rw [hQ]
  exact ret_v C hr hlk hw h dX7_addToCount_17
theorem hy_X7_shortenClaims : yX7_shortenClaims.cls ≠ "java/lang/invoke/MethodHandle" ∧ yX7_shortenClaims.cls ≠ "java/lang/invoke/VarHandle" ∧ (parseMethodDescriptor yX7_shortenClaims.desc).map (fun d => d.parameters.length) = some 0 := by decide +kernel
def wp_X7_shortenClaims (k : Nat) (w : Wd) (Post : Wd → Prop) : Prop :=
  ∀ J2 : Int32 → Wd → Prop, (∀ (x1 : Int32) (w : Wd), ((6 ≤ x1 → (Post w)) ∧ (¬ 6 ≤ x1 → (vp_in x1 6 ∧ (((gA w (53 + 8 * k + 4) x1.toNatClampNeg) ≤ 0 → (vp_in x1 6 ∧ (((gA w (53 + 8 * k + 4) x1.toNatClampNeg) = 0 → (vp_in x1 6 ∧ (∀ y2 : Int32, y2 = x1 + 1 → (J2 y2 (sA w (53 + 8 * k + 3) x1.toNatClampNeg ((-1))))))) ∧ (¬ (gA w (53 + 8 * k + 4) x1.toNatClampNeg) = 0 → (∀ y1 : Int32, y1 = x1 + 1 → (J2 y1 w)))))) ∧ (¬ (gA w (53 + 8 * k + 4) x1.toNatClampNeg) ≤ 0 → (vp_in x1 6 ∧ (∀ y3 : Int32, y3 = (gA w (53 + 8 * k + 4) x1.toNatClampNeg) - 1 → (vp_in x1 6 ∧ (vp_in x1 6 ∧ (((gA (sA w (53 + 8 * k + 4) x1.toNatClampNeg y3) (53 + 8 * k + 4) x1.toNatClampNeg) = 0 → (vp_in x1 6 ∧ (∀ y5 : Int32, y5 = x1 + 1 → (J2 y5 (sA (sA w (53 + 8 * k + 4) x1.toNatClampNeg y3) (53 + 8 * k + 3) x1.toNatClampNeg ((-1))))))) ∧ (¬ (gA (sA w (53 + 8 * k + 4) x1.toNatClampNeg y3) (53 + 8 * k + 4) x1.toNatClampNeg) = 0 → (∀ y4 : Int32, y4 = x1 + 1 → (J2 y4 (sA w (53 + 8 * k + 4) x1.toNatClampNeg y3)))))))))))))) → J2 x1 w) →
  J2 0 w
set_option maxHeartbeats 4000000 in
set_option maxRecDepth 100000 in
theorem mt_X7_shortenClaims (l : Launch) {E : En} (hI : Inj E) (hF : ∀ o, (o < 15 ∨ 27 ≤ o ∧ o < 157) → o ∈ eL E) (k : Nat) (hk : k < 13) (w : Wd) {Post : Wd → Prop} (h : wp_X7_shortenClaims k w Post) : MV l E yX7_shortenClaims cX7_shortenClaims 2 none 0 0 [.ref (eA E ((53 + 8 * k)))] w Post := by
  refine MG.intro hI (by decide +kernel) (Nat.le_of_ble_eq_true rfl) ?_
  intro p e s m args below meth c Q C hr hlk hQ hw ls hl
  have hx := C.1
  have hb := C.2.1
  have hl : lv_has ls 2 [(0, .ref (eA E ((53 + 8 * k))))] := hl
  unfold wp_X7_shortenClaims at h
  have h := h (fun x1 w => Jp E p l e (Rm 0 0) s m args below meth c Q 2 2 [(0, .ref (eA E ((53 + 8 * k)))), (1, .int x1)] w)
  have h := h ?_
  rotate_left
  · intro x1 w h H locs hw ls hl
    refine lv_iload_n hx hb dX7_shortenClaims_2 rfl (lv_at hl 1 rfl) ?_
    refine lv_bipush (v := 6) hx hb dX7_shortenClaims_3 (by decide) ?_
    refine lv_icmp_ge (tgt := 49) hx hb dX7_shortenClaims_5 (by decide) (fun c1 => ?_) (fun c1 => ?_)
    · have h := h.1 c1
      rw [hQ]
      exact ret_v C hr hlk hw h dX7_shortenClaims_49
    · have h := h.2 c1
      refine lv_aload_n hx hb dX7_shortenClaims_8 rfl (lv_at hl 0 rfl) ?_
      refine g7_3 C hw k hk (hF _ (by have := hk; omega)) K_f_X7_21 dX7_shortenClaims_9 ?_
      refine lv_iload_n hx hb dX7_shortenClaims_12 rfl (lv_at hl 1 rfl) ?_
      obtain ⟨hi1, h⟩ := h
      refine r_iald C hw (53 + 8 * k + 4) 6 (hF _ (by have := hk; omega)) (ce_sta 4 hk (by decide) (by decide)) hi1 dX7_shortenClaims_13 ?_
      refine lv_if_le (tgt := 27) hx hb dX7_shortenClaims_14 (by decide) (fun c2 => ?_) (fun c2 => ?_)
      · have h := h.1 c2
        refine lv_aload_n hx hb dX7_shortenClaims_27 rfl (lv_at hl 0 rfl) ?_
        refine g7_3 C hw k hk (hF _ (by have := hk; omega)) K_f_X7_21 dX7_shortenClaims_28 ?_
        refine lv_iload_n hx hb dX7_shortenClaims_31 rfl (lv_at hl 1 rfl) ?_
        obtain ⟨hi2, h⟩ := h
        refine r_iald C hw (53 + 8 * k + 4) 6 (hF _ (by have := hk; omega)) (ce_sta 4 hk (by decide) (by decide)) hi2 dX7_shortenClaims_32 ?_
        refine lv_if_ne (tgt := 43) hx hb dX7_shortenClaims_33 (by decide) (fun c3 => ?_) (fun c3 => ?_)
        · have h := h.2 c3
          obtain ⟨y1, ey1⟩ : ∃ y : Int32, y = x1 + 1 := ⟨_, rfl⟩
          have h := h y1 ey1
          refine lv_iinc (v := y1) (lv' := [(1, .int y1), (0, .ref (eA E ((53 + 8 * k))))]) hx hb dX7_shortenClaims_43 hl (k := 1) rfl (by rw [ey1]; first | rfl | decide) (by decide) rfl (fun ls hl => ?_)
          refine lv_goto (tgt := 2) hx hb dX7_shortenClaims_46 (by decide) ?_
          exact h _ _ hw _ (lv_sub hl [1, 0] rfl)
        · have h := h.1 c3
          refine lv_aload_n hx hb dX7_shortenClaims_36 rfl (lv_at hl 0 rfl) ?_
          refine g7_2 C hw k hk (hF _ (by have := hk; omega)) K_f_X7_18 dX7_shortenClaims_37 ?_
          refine lv_iload_n hx hb dX7_shortenClaims_40 rfl (lv_at hl 1 rfl) ?_
          refine lv_iconst (v := (-1)) hx hb dX7_shortenClaims_41 (by decide) ?_
          obtain ⟨hi3, h⟩ := h
          refine r_iast C hw (53 + 8 * k + 3) 6 (hF _ (by have := hk; omega)) (fun _ => ce_sta 3 hk (by decide) (by decide)) hi3 dX7_shortenClaims_42 (fun H locs hw => ?_)
          obtain ⟨y2, ey2⟩ : ∃ y : Int32, y = x1 + 1 := ⟨_, rfl⟩
          have h := h y2 ey2
          refine lv_iinc (v := y2) (lv' := [(1, .int y2), (0, .ref (eA E ((53 + 8 * k))))]) hx hb dX7_shortenClaims_43 hl (k := 1) rfl (by rw [ey2]; first | rfl | decide) (by decide) rfl (fun ls hl => ?_)
          refine lv_goto (tgt := 2) hx hb dX7_shortenClaims_46 (by decide) ?_
          exact h _ _ hw _ (lv_sub hl [1, 0] rfl)
      · have h := h.2 c2
        refine lv_aload_n hx hb dX7_shortenClaims_17 rfl (lv_at hl 0 rfl) ?_
        refine g7_3 C hw k hk (hF _ (by have := hk; omega)) K_f_X7_21 dX7_shortenClaims_18 ?_
        refine lv_iload_n hx hb dX7_shortenClaims_21 rfl (lv_at hl 1 rfl) ?_
        refine lv_dup2_11 hx hb dX7_shortenClaims_22 rfl rfl ?_
        obtain ⟨hi4, h⟩ := h
        refine r_iald C hw (53 + 8 * k + 4) 6 (hF _ (by have := hk; omega)) (ce_sta 4 hk (by decide) (by decide)) hi4 dX7_shortenClaims_23 ?_
        refine lv_iconst (v := 1) hx hb dX7_shortenClaims_24 (by decide) ?_
        refine lv_isub hx hb dX7_shortenClaims_25 ?_
        refine lv_topi (fun y3 ey3 => ?_)
        have h := h y3 ey3
        obtain ⟨hi5, h⟩ := h
        refine r_iast C hw (53 + 8 * k + 4) 6 (hF _ (by have := hk; omega)) (fun _ => ce_sta 4 hk (by decide) (by decide)) hi5 dX7_shortenClaims_26 (fun H locs hw => ?_)
        refine lv_aload_n hx hb dX7_shortenClaims_27 rfl (lv_at hl 0 rfl) ?_
        refine g7_3 C hw k hk (hF _ (by have := hk; omega)) K_f_X7_21 dX7_shortenClaims_28 ?_
        refine lv_iload_n hx hb dX7_shortenClaims_31 rfl (lv_at hl 1 rfl) ?_
        obtain ⟨hi6, h⟩ := h
        refine r_iald C hw (53 + 8 * k + 4) 6 (hF _ (by have := hk; omega)) (ce_sta 4 hk (by decide) (by decide)) hi6 dX7_shortenClaims_32 ?_
        refine lv_if_ne (tgt := 43) hx hb dX7_shortenClaims_33 (by decide) (fun c4 => ?_) (fun c4 => ?_)
        · have h := h.2 c4
          obtain ⟨y4, ey4⟩ : ∃ y : Int32, y = x1 + 1 := ⟨_, rfl⟩
          have h := h y4 ey4
          refine lv_iinc (v := y4) (lv' := [(1, .int y4), (0, .ref (eA E ((53 + 8 * k))))]) hx hb dX7_shortenClaims_43 hl (k := 1) rfl (by rw [ey4]; first | rfl | decide) (by decide) rfl (fun ls hl => ?_)
          refine lv_goto (tgt := 2) hx hb dX7_shortenClaims_46 (by decide) ?_
          exact h _ _ hw _ (lv_sub hl [1, 0] rfl)
        · have h := h.1 c4
          refine lv_aload_n hx hb dX7_shortenClaims_36 rfl (lv_at hl 0 rfl) ?_
          refine g7_2 C hw k hk (hF _ (by have := hk; omega)) K_f_X7_18 dX7_shortenClaims_37 ?_
          refine lv_iload_n hx hb dX7_shortenClaims_40 rfl (lv_at hl 1 rfl) ?_
          refine lv_iconst (v := (-1)) hx hb dX7_shortenClaims_41 (by decide) ?_
          obtain ⟨hi7, h⟩ := h
          refine r_iast C hw (53 + 8 * k + 3) 6 (hF _ (by have := hk; omega)) (fun _ => ce_sta 3 hk (by decide) (by decide)) hi7 dX7_shortenClaims_42 (fun H locs hw => ?_)
          obtain ⟨y5, ey5⟩ : ∃ y : Int32, y = x1 + 1 := ⟨_, rfl⟩
          have h := h y5 ey5
          refine lv_iinc (v := y5) (lv' := [(1, .int y5), (0, .ref (eA E ((53 + 8 * k))))]) hx hb dX7_shortenClaims_43 hl (k := 1) rfl (by rw [ey5]; first | rfl | decide) (by decide) rfl (fun ls hl => ?_)
          refine lv_goto (tgt := 2) hx hb dX7_shortenClaims_46 (by decide) ?_
          exact h _ _ hw _ (lv_sub hl [1, 0] rfl)
  refine lv_iconst (v := 0) hx hb dX7_shortenClaims_0 (by decide) ?_
  refine lv_istore_n (lv' := [(1, .int 0), (0, .ref (eA E ((53 + 8 * k))))]) hx hb dX7_shortenClaims_1 rfl hl (by decide) rfl (fun ls hl => ?_)
  exact h _ _ hw _ (lv_sub hl [1, 0] rfl)
theorem hy_X7_finishAct : yX7_finishAct.cls ≠ "java/lang/invoke/MethodHandle" ∧ yX7_finishAct.cls ≠ "java/lang/invoke/VarHandle" ∧ (parseMethodDescriptor yX7_finishAct.desc).map (fun d => d.parameters.length) = some 4 := by decide +kernel
def wp_X7_finishAct (k : Nat) (w : Wd) (p1 : Int32) (p2 : Int32) (p3 : Int32) (p4 : Int32) (Post : Wd → Prop) : Prop :=
  ∀ y1 : Int32, y1 = ((gI w (53 + 8 * k) 8) - (gI w (53 + 8 * k) 8) / 16 * 16) * 5 → (vp_in (y1 + 0) 80 ∧ (∀ y2 : Int32, y2 = gI (sA w (53 + 8 * k + 7) ((y1 + 0).toNatClampNeg) p1) (53 + 8 * k) 7 → (vp_in (y1 + 1) 80 ∧ (vp_in (y1 + 2) 80 ∧ (vp_in (y1 + 3) 80 ∧ (vp_in (y1 + 4) 80 ∧ (∀ y3 : Int32, y3 = (gI (sA (sA (sA (sA (sA w (53 + 8 * k + 7) ((y1 + 0).toNatClampNeg) p1) (53 + 8 * k + 7) ((y1 + 1).toNatClampNeg) y2) (53 + 8 * k + 7) ((y1 + 2).toNatClampNeg) p2) (53 + 8 * k + 7) ((y1 + 3).toNatClampNeg) p3) (53 + 8 * k + 7) ((y1 + 4).toNatClampNeg) p4) (53 + 8 * k) 8) + 1 → (wp_X7_shortenClaims k (sI (sA (sA (sA (sA (sA w (53 + 8 * k + 7) ((y1 + 0).toNatClampNeg) p1) (53 + 8 * k + 7) ((y1 + 1).toNatClampNeg) y2) (53 + 8 * k + 7) ((y1 + 2).toNatClampNeg) p2) (53 + 8 * k + 7) ((y1 + 3).toNatClampNeg) p3) (53 + 8 * k + 7) ((y1 + 4).toNatClampNeg) p4) (53 + 8 * k) 8 y3) (fun w1 => wp_X7_ban k w1 ((-1)) ((-1)) ((-1)) (fun w2 => ∀ y4 : Int32, y4 = 1 - (gI w2 (53 + 8 * k) 7) → (Post (sI w2 (53 + 8 * k) 7 y4))))))))))))
set_option maxHeartbeats 4000000 in
set_option maxRecDepth 100000 in
theorem mt_X7_finishAct (l : Launch) {E : En} (hI : Inj E) (hF : ∀ o, (o < 15 ∨ 27 ≤ o ∧ o < 157) → o ∈ eL E) (k : Nat) (hk : k < 13) (w : Wd) (p1 : Int32) (p2 : Int32) (p3 : Int32) (p4 : Int32) {Post : Wd → Prop} (h : wp_X7_finishAct k w p1 p2 p3 p4 Post) : MV l E yX7_finishAct cX7_finishAct 6 none 1 23 [.ref (eA E ((53 + 8 * k))), .int p1, .int p2, .int p3, .int p4] w Post := by
  refine MG.intro hI (by decide +kernel) (Nat.le_of_ble_eq_true rfl) ?_
  intro p e s m args below meth c Q C hr hlk hQ hw ls hl
  have hx := C.1
  have hb := C.2.1
  have hl : lv_has ls 6 [(0, .ref (eA E ((53 + 8 * k)))), (1, .int p1), (2, .int p2), (3, .int p3), (4, .int p4)] := hl
  unfold wp_X7_finishAct at h
  refine lv_aload_n hx hb dX7_finishAct_0 rfl (lv_at hl 0 rfl) ?_
  refine g7_8 C hw k hk (hF _ (by have := hk; omega)) K_f_X7_61 dX7_finishAct_1 ?_
  refine lv_bipush (v := 16) hx hb dX7_finishAct_4 (by decide) ?_
  refine lv_irem hx hb dX7_finishAct_6 (by decide) ?_
  refine lv_iconst (v := 5) hx hb dX7_finishAct_7 (by decide) ?_
  refine lv_imul hx hb dX7_finishAct_8 ?_
  refine lv_topi (fun y1 ey1 => ?_)
  have h := h y1 ey1
  refine lv_istore (lv' := [(5, .int y1), (0, .ref (eA E ((53 + 8 * k)))), (1, .int p1), (2, .int p2), (3, .int p3), (4, .int p4)]) hx hb dX7_finishAct_9 hl (by decide) rfl (fun ls hl => ?_)
  refine lv_aload_n hx hb dX7_finishAct_11 rfl (lv_at hl 1 rfl) ?_
  refine g7_6 C hw k hk (hF _ (by have := hk; omega)) K_f_X7_30 dX7_finishAct_12 ?_
  refine lv_iload hx hb dX7_finishAct_15 (lv_at hl 0 rfl) ?_
  refine lv_iconst (v := 0) hx hb dX7_finishAct_17 (by decide) ?_
  refine lv_iadd hx hb dX7_finishAct_18 ?_
  refine lv_iload_n hx hb dX7_finishAct_19 rfl (lv_at hl 2 rfl) ?_
  obtain ⟨hi1, h⟩ := h
  refine r_iast C hw (53 + 8 * k + 7) 80 (hF _ (by have := hk; omega)) (fun _ => ce_sta 7 hk (by decide) (by decide)) hi1 dX7_finishAct_20 (fun H locs hw => ?_)
  refine lv_aload_n hx hb dX7_finishAct_21 rfl (lv_at hl 1 rfl) ?_
  refine g7_6 C hw k hk (hF _ (by have := hk; omega)) K_f_X7_30 dX7_finishAct_22 ?_
  refine lv_iload hx hb dX7_finishAct_25 (lv_at hl 0 rfl) ?_
  refine lv_iconst (v := 1) hx hb dX7_finishAct_27 (by decide) ?_
  refine lv_iadd hx hb dX7_finishAct_28 ?_
  refine lv_aload_n hx hb dX7_finishAct_29 rfl (lv_at hl 1 rfl) ?_
  refine g7_7 C hw k hk (hF _ (by have := hk; omega)) K_f_X7_58 dX7_finishAct_30 ?_
  refine lv_topi (fun y2 ey2 => ?_)
  have h := h y2 ey2
  obtain ⟨hi2, h⟩ := h
  refine r_iast C hw (53 + 8 * k + 7) 80 (hF _ (by have := hk; omega)) (fun _ => ce_sta 7 hk (by decide) (by decide)) hi2 dX7_finishAct_33 (fun H locs hw => ?_)
  refine lv_aload_n hx hb dX7_finishAct_34 rfl (lv_at hl 1 rfl) ?_
  refine g7_6 C hw k hk (hF _ (by have := hk; omega)) K_f_X7_30 dX7_finishAct_35 ?_
  refine lv_iload hx hb dX7_finishAct_38 (lv_at hl 0 rfl) ?_
  refine lv_iconst (v := 2) hx hb dX7_finishAct_40 (by decide) ?_
  refine lv_iadd hx hb dX7_finishAct_41 ?_
  refine lv_iload_n hx hb dX7_finishAct_42 rfl (lv_at hl 3 rfl) ?_
  obtain ⟨hi3, h⟩ := h
  refine r_iast C hw (53 + 8 * k + 7) 80 (hF _ (by have := hk; omega)) (fun _ => ce_sta 7 hk (by decide) (by decide)) hi3 dX7_finishAct_43 (fun H locs hw => ?_)
  refine lv_aload_n hx hb dX7_finishAct_44 rfl (lv_at hl 1 rfl) ?_
  refine g7_6 C hw k hk (hF _ (by have := hk; omega)) K_f_X7_30 dX7_finishAct_45 ?_
  refine lv_iload hx hb dX7_finishAct_48 (lv_at hl 0 rfl) ?_
  refine lv_iconst (v := 3) hx hb dX7_finishAct_50 (by decide) ?_
  refine lv_iadd hx hb dX7_finishAct_51 ?_
  refine lv_iload_n hx hb dX7_finishAct_52 rfl (lv_at hl 4 rfl) ?_
  obtain ⟨hi4, h⟩ := h
  refine r_iast C hw (53 + 8 * k + 7) 80 (hF _ (by have := hk; omega)) (fun _ => ce_sta 7 hk (by decide) (by decide)) hi4 dX7_finishAct_53 (fun H locs hw => ?_)
  refine lv_aload_n hx hb dX7_finishAct_54 rfl (lv_at hl 1 rfl) ?_
  refine g7_6 C hw k hk (hF _ (by have := hk; omega)) K_f_X7_30 dX7_finishAct_55 ?_
  refine lv_iload hx hb dX7_finishAct_58 (lv_at hl 0 rfl) ?_
  refine lv_iconst (v := 4) hx hb dX7_finishAct_60 (by decide) ?_
  refine lv_iadd hx hb dX7_finishAct_61 ?_
  refine lv_iload hx hb dX7_finishAct_62 (lv_at hl 5 rfl) ?_
  obtain ⟨hi5, h⟩ := h
  refine r_iast C hw (53 + 8 * k + 7) 80 (hF _ (by have := hk; omega)) (fun _ => ce_sta 7 hk (by decide) (by decide)) hi5 dX7_finishAct_64 (fun H locs hw => ?_)
  refine lv_aload_n hx hb dX7_finishAct_65 rfl (lv_at hl 1 rfl) ?_
  refine lv_dup hx hb dX7_finishAct_66 rfl ?_
  refine g7_8 C hw k hk (hF _ (by have := hk; omega)) K_f_X7_61 dX7_finishAct_67 ?_
  refine lv_iconst (v := 1) hx hb dX7_finishAct_70 (by decide) ?_
  refine lv_iadd hx hb dX7_finishAct_71 ?_
  refine lv_topi (fun y3 ey3 => ?_)
  have h := h y3 ey3
  refine p7_8 C hw k hk (hF _ (by have := hk; omega)) K_f_X7_61 dX7_finishAct_72 (fun H locs hw => ?_)
  refine lv_aload_n hx hb dX7_finishAct_75 rfl (lv_at hl 1 rfl) ?_
  refine done_v hw (my_runV (As := []) (rest := []) C hw (53 + 8 * k) 7 (hF _ (by have := hk; omega)) (ce_st hk) rfl (mt_X7_shortenClaims l C.2.2.2.2.2.2.2 hF k hk _ h) K_m_X7_79 K_i_X7_shortenClaims K_v_X7_shortenClaims K_n_X7 K_c_X7_shortenClaims hy_X7_shortenClaims ⟨Nat.le_of_ble_eq_true rfl, Nat.le_of_ble_eq_true rfl⟩ hl.1 rfl (Nat.le_of_ble_eq_true rfl) dX7_finishAct_76 ⟨Nat.zero_le _, Nat.zero_le _⟩) (fun w1 H locs h hw => ?_)
  refine lv_aload_n hx hb dX7_finishAct_79 rfl (lv_at hl 1 rfl) ?_
  refine lv_iconst (v := (-1)) hx hb dX7_finishAct_80 (by decide) ?_
  refine lv_iconst (v := (-1)) hx hb dX7_finishAct_81 (by decide) ?_
  refine lv_iconst (v := (-1)) hx hb dX7_finishAct_82 (by decide) ?_
  refine done_v hw (my_runV (As := [.int ((-1)), .int ((-1)), .int ((-1))]) (rest := []) C hw (53 + 8 * k) 7 (hF _ (by have := hk; omega)) (ce_st hk) rfl (mt_X7_ban l C.2.2.2.2.2.2.2 k hk (fun o a => hF o (by have := hk; omega)) _ _ _ _ h) K_m_X7_39 K_i_X7_ban K_v_X7_ban K_n_X7 K_c_X7_ban hy_X7_ban ⟨Nat.le_of_ble_eq_true rfl, Nat.le_of_ble_eq_true rfl⟩ hl.1 rfl (Nat.le_of_ble_eq_true rfl) dX7_finishAct_83 ⟨Nat.zero_le _, Nat.zero_le _⟩) (fun w2 H locs h hw => ?_)
  refine lv_aload_n hx hb dX7_finishAct_86 rfl (lv_at hl 1 rfl) ?_
  refine lv_iconst (v := 1) hx hb dX7_finishAct_87 (by decide) ?_
  refine lv_aload_n hx hb dX7_finishAct_88 rfl (lv_at hl 1 rfl) ?_
  refine g7_7 C hw k hk (hF _ (by have := hk; omega)) K_f_X7_58 dX7_finishAct_89 ?_
  refine lv_isub hx hb dX7_finishAct_92 ?_
  refine lv_topi (fun y4 ey4 => ?_)
  have h := h y4 ey4
  refine p7_7 C hw k hk (hF _ (by have := hk; omega)) K_f_X7_58 dX7_finishAct_93 (fun H locs hw => ?_)
  rw [hQ]
  exact ret_v C hr hlk hw h dX7_finishAct_96

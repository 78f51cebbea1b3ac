/-! the StringBuilder's methods -/
theorem hy_J0_coder_7d493 : yJ0_coder_7d493.cls ≠ "java/lang/invoke/MethodHandle" ∧ yJ0_coder_7d493.cls ≠ "java/lang/invoke/VarHandle" ∧ (parseMethodDescriptor yJ0_coder_7d493.desc).map (fun d => d.parameters.length) = some 0 := hy_J0_coder
theorem hy_J0_checkIndex_df160 : yJ0_checkIndex_df160.cls ≠ "java/lang/invoke/MethodHandle" ∧ yJ0_checkIndex_df160.cls ≠ "java/lang/invoke/VarHandle" ∧ (parseMethodDescriptor yJ0_checkIndex_df160.desc).map (fun d => d.parameters.length) = some 2 := hy_J0_checkIndex
def wp_J0_coder_7d493 (i : Nat) (w : Wd) (Post : Int32 → Wd → Prop) : Prop := Post 0 w
theorem mt_J0_coder_7d493 (l : Launch) {E : En} (hI : Inj E) (i : Nat) (hi : i < 18) (w : Wd) {Post : Int32 → Wd → Prop} (h : wp_J0_coder_7d493 i w Post) : MI l E yJ0_coder_7d493 cJ0_coder_7d493 1 (some .byte) 0 0 [.ref (eT E (1 + i))] w Post := mt_J0_coder l hI i hi w h
def wp_J0_checkIndex_df160 (w : Wd) (x y : Int32) (Post : Wd → Prop) : Prop := (∃ n, y = nI n ∧ n < 2 ^ 31 ∧ vp_in x n) ∧ Post w
theorem mt_J0_checkIndex_df160 (l : Launch) {E : En} (hI : Inj E) (w : Wd) (x y : Int32) {Post : Wd → Prop} (h : wp_J0_checkIndex_df160 w x y Post) : MV l E yJ0_checkIndex_df160 cJ0_checkIndex_df160 2 none 1 22 [.int x, .int y] w Post := by
  obtain ⟨⟨n, e, h1, h2⟩, h⟩ := h
  subst e
  exact mt_J0_checkIndex l hI w x n h1 h2 h

theorem hy_J6_stringSize_0f7a4 : yJ6_stringSize_0f7a4.cls ≠ "java/lang/invoke/MethodHandle" ∧ yJ6_stringSize_0f7a4.cls ≠ "java/lang/invoke/VarHandle" ∧ (parseMethodDescriptor yJ6_stringSize_0f7a4.desc).map (fun d => d.parameters.length) = some 1 := by decide +kernel
def wp_J6_stringSize_0f7a4 (w : Wd) (p0 : Int32) (Post : Int32 → Wd → Prop) : Prop :=
  ∀ J16 : Int32 → Int32 → Int32 → Int32 → Wd → Prop, (∀ (x0 : Int32) (x1 : Int32) (x2 : Int32) (x3 : Int32) (w : Wd), ((10 ≤ x3 → (Post (10 + x1) w)) ∧ (¬ 10 ≤ x3 → ((x0 ≤ x2 → (∀ y2 : Int32, y2 = 10 * x2 → (∀ y3 : Int32, y3 = x3 + 1 → (J16 x0 x1 y2 y3 w)))) ∧ (¬ x0 ≤ x2 → (Post (x3 + x1) w))))) → J16 x0 x1 x2 x3 w) →
  (p0 < 0 → (J16 p0 1 ((-10)) 1 w)) ∧ (¬ p0 < 0 → (∀ y1 : Int32, y1 = -p0 → (J16 y1 0 ((-10)) 1 w)))
set_option maxHeartbeats 4000000 in
set_option maxRecDepth 100000 in
theorem mt_J6_stringSize_0f7a4 (l : Launch) {E : En} (hI : Inj E) (w : Wd) (p0 : Int32) {Post : Int32 → Wd → Prop} (h : wp_J6_stringSize_0f7a4 w p0 Post) : MI l E yJ6_stringSize_0f7a4 cJ6_stringSize_0f7a4 4 (some .int) 0 0 [.int p0] w Post := by
  refine MG.intro hI (by decide +kernel) (Nat.le_of_ble_eq_true rfl) ?_
  intro p e s m args below meth c Q C hr hlk hQ hw ls hl
  have hx := C.1
  have hb := C.2.1
  have hl : lv_has ls 4 [(0, .int p0)] := hl
  unfold wp_J6_stringSize_0f7a4 at h
  have h := h (fun x0 x1 x2 x3 w => Jp E p l e (Rm 0 0) s m args below meth c Q 4 16 [(0, .int x0), (1, .int x1), (2, .int x2), (3, .int x3)] w)
  have h := h ?_
  rotate_left
  · intro x0 x1 x2 x3 w h H locs hw ls hl
    refine lv_iload_n hx hb dJ6_stringSize_0f7a4_16 rfl (lv_at hl 3 rfl) ?_
    refine lv_bipush (v := 10) hx hb dJ6_stringSize_0f7a4_17 (by decide) ?_
    refine lv_icmp_ge (tgt := 42) hx hb dJ6_stringSize_0f7a4_19 (by decide) (fun c2 => ?_) (fun c2 => ?_)
    · have h := h.1 c2
      refine lv_bipush (v := 10) hx hb dJ6_stringSize_0f7a4_42 (by decide) ?_
      refine lv_iload_n hx hb dJ6_stringSize_0f7a4_44 rfl (lv_at hl 1 rfl) ?_
      refine lv_iadd hx hb dJ6_stringSize_0f7a4_45 ?_
      rw [hQ]
      exact ret_i C hr hlk hw h dJ6_stringSize_0f7a4_46
    · have h := h.2 c2
      refine lv_iload_n hx hb dJ6_stringSize_0f7a4_22 rfl (lv_at hl 0 rfl) ?_
      refine lv_iload_n hx hb dJ6_stringSize_0f7a4_23 rfl (lv_at hl 2 rfl) ?_
      refine lv_icmp_le (tgt := 31) hx hb dJ6_stringSize_0f7a4_24 (by decide) (fun c3 => ?_) (fun c3 => ?_)
      · have h := h.1 c3
        refine lv_bipush (v := 10) hx hb dJ6_stringSize_0f7a4_31 (by decide) ?_
        refine lv_iload_n hx hb dJ6_stringSize_0f7a4_33 rfl (lv_at hl 2 rfl) ?_
        refine lv_imul hx hb dJ6_stringSize_0f7a4_34 ?_
        refine lv_topi (fun y2 ey2 => ?_)
        have h := h y2 ey2
        refine lv_istore_n (lv' := [(2, .int y2), (0, .int x0), (1, .int x1), (3, .int x3)]) hx hb dJ6_stringSize_0f7a4_35 rfl hl (by decide) rfl (fun ls hl => ?_)
        obtain ⟨y3, ey3⟩ : ∃ y : Int32, y = x3 + 1 := ⟨_, rfl⟩
        have h := h y3 ey3
        refine lv_iinc (v := y3) (lv' := [(3, .int y3), (2, .int y2), (0, .int x0), (1, .int x1)]) hx hb dJ6_stringSize_0f7a4_36 hl (k := 3) rfl (by rw [ey3]; first | rfl | decide) (by decide) rfl (fun ls hl => ?_)
        refine lv_goto (tgt := 16) hx hb dJ6_stringSize_0f7a4_39 (by decide) ?_
        exact h _ _ hw _ (lv_sub hl [2, 3, 1, 0] rfl)
      · have h := h.2 c3
        refine lv_iload_n hx hb dJ6_stringSize_0f7a4_27 rfl (lv_at hl 3 rfl) ?_
        refine lv_iload_n hx hb dJ6_stringSize_0f7a4_28 rfl (lv_at hl 1 rfl) ?_
        refine lv_iadd hx hb dJ6_stringSize_0f7a4_29 ?_
        rw [hQ]
        exact ret_i C hr hlk hw h dJ6_stringSize_0f7a4_30
  refine lv_iconst (v := 1) hx hb dJ6_stringSize_0f7a4_0 (by decide) ?_
  refine lv_istore_n (lv' := [(1, .int 1), (0, .int p0)]) hx hb dJ6_stringSize_0f7a4_1 rfl hl (by decide) rfl (fun ls hl => ?_)
  refine lv_iload_n hx hb dJ6_stringSize_0f7a4_2 rfl (lv_at hl 1 rfl) ?_
  refine lv_if_lt (tgt := 11) hx hb dJ6_stringSize_0f7a4_3 (by decide) (fun c1 => ?_) (fun c1 => ?_)
  · have h := h.1 c1
    refine lv_bipush (v := (-10)) hx hb dJ6_stringSize_0f7a4_11 (by decide) ?_
    refine lv_istore_n (lv' := [(2, .int ((-10))), (1, .int 1), (0, .int p0)]) hx hb dJ6_stringSize_0f7a4_13 rfl hl (by decide) rfl (fun ls hl => ?_)
    refine lv_iconst (v := 1) hx hb dJ6_stringSize_0f7a4_14 (by decide) ?_
    refine lv_istore_n (lv' := [(3, .int 1), (2, .int ((-10))), (1, .int 1), (0, .int p0)]) hx hb dJ6_stringSize_0f7a4_15 rfl hl (by decide) rfl (fun ls hl => ?_)
    exact h _ _ hw _ (lv_sub hl [3, 2, 1, 0] rfl)
  · have h := h.2 c1
    refine lv_iconst (v := 0) hx hb dJ6_stringSize_0f7a4_6 (by decide) ?_
    refine lv_istore_n (lv' := [(1, .int 0), (0, .int p0)]) hx hb dJ6_stringSize_0f7a4_7 rfl hl (by decide) rfl (fun ls hl => ?_)
    refine lv_iload_n hx hb dJ6_stringSize_0f7a4_8 rfl (lv_at hl 1 rfl) ?_
    refine lv_ineg hx hb dJ6_stringSize_0f7a4_9 ?_
    refine lv_topi (fun y1 ey1 => ?_)
    have h := h y1 ey1
    refine lv_istore_n (lv' := [(0, .int y1), (1, .int 0)]) hx hb dJ6_stringSize_0f7a4_10 rfl hl (by decide) rfl (fun ls hl => ?_)
    refine lv_bipush (v := (-10)) hx hb dJ6_stringSize_0f7a4_11 (by decide) ?_
    refine lv_istore_n (lv' := [(2, .int ((-10))), (0, .int y1), (1, .int 0)]) hx hb dJ6_stringSize_0f7a4_13 rfl hl (by decide) rfl (fun ls hl => ?_)
    refine lv_iconst (v := 1) hx hb dJ6_stringSize_0f7a4_14 (by decide) ?_
    refine lv_istore_n (lv' := [(3, .int 1), (2, .int ((-10))), (0, .int y1), (1, .int 0)]) hx hb dJ6_stringSize_0f7a4_15 rfl hl (by decide) rfl (fun ls hl => ?_)
    exact h _ _ hw _ (lv_sub hl [2, 3, 1, 0] rfl)
theorem hy_J6_getChars_ba4f3 : yJ6_getChars_ba4f3.cls ≠ "java/lang/invoke/MethodHandle" ∧ yJ6_getChars_ba4f3.cls ≠ "java/lang/invoke/VarHandle" ∧ (parseMethodDescriptor yJ6_getChars_ba4f3.desc).map (fun d => d.parameters.length) = some 3 := by decide +kernel
def wp_J6_getChars_ba4f3 (w : Wd) (p0 : Int32) (p1 : Int32) (Post : Int32 → Wd → Prop) : Prop :=
  ∀ J22 : Int32 → Int32 → Int32 → Wd → Prop, (∀ (x0 : Int32) (x5 : Int32) (x6 : Int32) (w : Wd), ((((-100)) < x0 → (∀ y2 : Int32, y2 = x5 + (-1) → (vp_in (-x0) 100 ∧ (∀ y3 : Int32, y3 = digTab (-x0).toNatClampNeg → (vp_in y2 (gI w 16 0).toNatClampNeg ∧ ((((-9)) ≤ x0 → ((x6 = 0 → (Post y2 (sA w 16 y2.toNatClampNeg (vp_nar .byte y3)))) ∧ (¬ x6 = 0 → (∀ y4 : Int32, y4 = y2 + (-1) → (vp_in y4 (gI (sA w 16 y2.toNatClampNeg (vp_nar .byte y3)) 16 0).toNatClampNeg ∧ (Post y4 (sA (sA w 16 y2.toNatClampNeg (vp_nar .byte y3)) 16 y4.toNatClampNeg (vp_nar .byte 45)))))))) ∧ (¬ ((-9)) ≤ x0 → (∀ y5 : Int32, y5 = y2 + (-1) → (False))))))))) ∧ (¬ ((-100)) < x0 → (∀ y6 : Int32, y6 = x0 / 100 → (∀ y7 : Int32, y7 = (y6 * 100) - x0 → (∀ y8 : Int32, y8 = x5 + (-1) → (vp_in y7 100 ∧ (∀ y9 : Int32, y9 = digTab y7.toNatClampNeg → (vp_in y8 (gI w 16 0).toNatClampNeg ∧ (∀ y10 : Int32, y10 = y8 + (-1) → (False)))))))))) → J22 x0 x5 x6 w) →
  (0 ≤ p0 → (∀ y1 : Int32, y1 = -p0 → (J22 y1 p1 0 w))) ∧ (¬ 0 ≤ p0 → (J22 p0 p1 1 w))
set_option maxHeartbeats 4000000 in
set_option maxRecDepth 100000 in
theorem mt_J6_getChars_ba4f3 (l : Launch) {E : En} (hI : Inj E) (hF : ∀ o, (o = 15 ∨ o = 16) → o ∈ eL E) (w : Wd) (p0 : Int32) (p1 : Int32) {Post : Int32 → Wd → Prop} (h : wp_J6_getChars_ba4f3 w p0 p1 Post) : MI l E yJ6_getChars_ba4f3 cJ6_getChars_ba4f3 7 (some .int) 0 0 [.int p0, .int p1, .ref (eA E 16)] w Post := by
  refine MG.intro hI (by decide +kernel) (Nat.le_of_ble_eq_true rfl) ?_
  intro p e s m args below meth c Q C hr hlk hQ hw ls hl
  have hx := C.1
  have hb := C.2.1
  have hl : lv_has ls 7 [(0, .int p0), (1, .int p1), (2, .ref (eA E 16))] := hl
  unfold wp_J6_getChars_ba4f3 at h
  have h := h (fun x0 x5 x6 w => Jp E p l e (Rm 0 0) s m args below meth c Q 7 22 [(0, .int x0), (2, .ref (eA E 16)), (5, .int x5), (6, .int x6)] w)
  have h := h ?_
  rotate_left
  · intro x0 x5 x6 w h H locs hw ls hl
    refine lv_iload_n hx hb dJ6_getChars_ba4f3_22 rfl (lv_at hl 0 rfl) ?_
    refine lv_bipush (v := (-100)) hx hb dJ6_getChars_ba4f3_23 (by decide) ?_
    refine lv_icmp_gt (tgt := 72) hx hb dJ6_getChars_ba4f3_25 (by decide) (fun c4 => ?_) (fun c4 => ?_)
    · have h := h.1 c4
      refine lv_aload_n hx hb dJ6_getChars_ba4f3_72 rfl (lv_at hl 1 rfl) ?_
      obtain ⟨y2, ey2⟩ : ∃ y : Int32, y = x5 + (-1) := ⟨_, rfl⟩
      have h := h y2 ey2
      refine lv_iinc (v := y2) (lv' := [(5, .int y2), (0, .int x0), (2, .ref (eA E 16)), (6, .int x6)]) hx hb dJ6_getChars_ba4f3_73 hl (k := 2) rfl (by rw [ey2]; first | rfl | decide) (by decide) rfl (fun ls hl => ?_)
      refine lv_iload hx hb dJ6_getChars_ba4f3_76 (lv_at hl 0 rfl) ?_
      refine r_gdig C hw dJ6_getChars_ba4f3_78 ?_
      refine lv_iload_n hx hb dJ6_getChars_ba4f3_81 rfl (lv_at hl 1 rfl) ?_
      refine lv_ineg hx hb dJ6_getChars_ba4f3_82 ?_
      obtain ⟨hi1, h⟩ := h
      refine r_tdig C hw hi1 dJ6_getChars_ba4f3_83 ?_
      refine lv_topi (fun y3 ey3 => ?_)
      have h := h y3 ey3
      obtain ⟨hi2, h⟩ := h
      refine r_rast C hw (hF 16 (by decide)) hi2 dJ6_getChars_ba4f3_84 (fun H locs hw => ?_)
      refine lv_iload_n hx hb dJ6_getChars_ba4f3_85 rfl (lv_at hl 1 rfl) ?_
      refine lv_bipush (v := (-9)) hx hb dJ6_getChars_ba4f3_86 (by decide) ?_
      refine lv_icmp_ge (tgt := 104) hx hb dJ6_getChars_ba4f3_88 (by decide) (fun c5 => ?_) (fun c5 => ?_)
      · have h := h.1 c5
        refine lv_iload hx hb dJ6_getChars_ba4f3_104 (lv_at hl 3 rfl) ?_
        refine lv_if_eq (tgt := 118) hx hb dJ6_getChars_ba4f3_106 (by decide) (fun c6 => ?_) (fun c6 => ?_)
        · have h := h.1 c6
          refine lv_iload hx hb dJ6_getChars_ba4f3_118 (lv_at hl 0 rfl) ?_
          rw [hQ]
          exact ret_i C hr hlk hw h dJ6_getChars_ba4f3_120
        · have h := h.2 c6
          refine lv_aload_n hx hb dJ6_getChars_ba4f3_109 rfl (lv_at hl 2 rfl) ?_
          obtain ⟨y4, ey4⟩ : ∃ y : Int32, y = y2 + (-1) := ⟨_, rfl⟩
          have h := h y4 ey4
          refine lv_iinc (v := y4) (lv' := [(5, .int y4), (0, .int x0), (2, .ref (eA E 16)), (6, .int x6)]) hx hb dJ6_getChars_ba4f3_110 hl (k := 0) rfl (by rw [ey4]; first | rfl | decide) (by decide) rfl (fun ls hl => ?_)
          refine lv_iload hx hb dJ6_getChars_ba4f3_113 (lv_at hl 0 rfl) ?_
          refine lv_bipush (v := 45) hx hb dJ6_getChars_ba4f3_115 (by decide) ?_
          obtain ⟨hi3, h⟩ := h
          refine r_rast C hw (hF 16 (by decide)) hi3 dJ6_getChars_ba4f3_117 (fun H locs hw => ?_)
          refine lv_iload hx hb dJ6_getChars_ba4f3_118 (lv_at hl 0 rfl) ?_
          rw [hQ]
          exact ret_i C hr hlk hw h dJ6_getChars_ba4f3_120
      · have h := h.2 c5
        refine lv_aload_n hx hb dJ6_getChars_ba4f3_91 rfl (lv_at hl 2 rfl) ?_
        obtain ⟨y5, ey5⟩ : ∃ y : Int32, y = y2 + (-1) := ⟨_, rfl⟩
        have h := h y5 ey5
        refine lv_iinc (v := y5) (lv' := [(5, .int y5), (0, .int x0), (2, .ref (eA E 16)), (6, .int x6)]) hx hb dJ6_getChars_ba4f3_92 hl (k := 0) rfl (by rw [ey5]; first | rfl | decide) (by decide) rfl (fun ls hl => ?_)
        refine lv_iload hx hb dJ6_getChars_ba4f3_95 (lv_at hl 0 rfl) ?_
        exact h.elim
    · have h := h.2 c4
      refine lv_iload_n hx hb dJ6_getChars_ba4f3_28 rfl (lv_at hl 0 rfl) ?_
      refine lv_bipush (v := 100) hx hb dJ6_getChars_ba4f3_29 (by decide) ?_
      refine lv_idiv hx hb dJ6_getChars_ba4f3_31 (by decide) ?_
      refine lv_topi (fun y6 ey6 => ?_)
      have h := h y6 ey6
      refine lv_istore_n (lv' := [(3, .int y6), (0, .int x0), (2, .ref (eA E 16)), (5, .int x5), (6, .int x6)]) hx hb dJ6_getChars_ba4f3_32 rfl hl (by decide) rfl (fun ls hl => ?_)
      refine lv_iload_n hx hb dJ6_getChars_ba4f3_33 rfl (lv_at hl 0 rfl) ?_
      refine lv_bipush (v := 100) hx hb dJ6_getChars_ba4f3_34 (by decide) ?_
      refine lv_imul hx hb dJ6_getChars_ba4f3_36 ?_
      refine lv_iload_n hx hb dJ6_getChars_ba4f3_37 rfl (lv_at hl 1 rfl) ?_
      refine lv_isub hx hb dJ6_getChars_ba4f3_38 ?_
      refine lv_topi (fun y7 ey7 => ?_)
      have h := h y7 ey7
      refine lv_istore (lv' := [(4, .int y7), (3, .int y6), (0, .int x0), (2, .ref (eA E 16)), (5, .int x5), (6, .int x6)]) hx hb dJ6_getChars_ba4f3_39 hl (by decide) rfl (fun ls hl => ?_)
      refine lv_iload_n hx hb dJ6_getChars_ba4f3_41 rfl (lv_at hl 1 rfl) ?_
      refine lv_istore_n (lv' := [(0, .int y6), (4, .int y7), (3, .int y6), (2, .ref (eA E 16)), (5, .int x5), (6, .int x6)]) hx hb dJ6_getChars_ba4f3_42 rfl hl (by decide) rfl (fun ls hl => ?_)
      refine lv_aload_n hx hb dJ6_getChars_ba4f3_43 rfl (lv_at hl 3 rfl) ?_
      obtain ⟨y8, ey8⟩ : ∃ y : Int32, y = x5 + (-1) := ⟨_, rfl⟩
      have h := h y8 ey8
      refine lv_iinc (v := y8) (lv' := [(5, .int y8), (0, .int y6), (4, .int y7), (3, .int y6), (2, .ref (eA E 16)), (6, .int x6)]) hx hb dJ6_getChars_ba4f3_44 hl (k := 4) rfl (by rw [ey8]; first | rfl | decide) (by decide) rfl (fun ls hl => ?_)
      refine lv_iload hx hb dJ6_getChars_ba4f3_47 (lv_at hl 0 rfl) ?_
      refine r_gdig C hw dJ6_getChars_ba4f3_49 ?_
      refine lv_iload hx hb dJ6_getChars_ba4f3_52 (lv_at hl 2 rfl) ?_
      obtain ⟨hi4, h⟩ := h
      refine r_tdig C hw hi4 dJ6_getChars_ba4f3_54 ?_
      refine lv_topi (fun y9 ey9 => ?_)
      have h := h y9 ey9
      obtain ⟨hi5, h⟩ := h
      refine r_rast C hw (hF 16 (by decide)) hi5 dJ6_getChars_ba4f3_55 (fun H locs hw => ?_)
      refine lv_aload_n hx hb dJ6_getChars_ba4f3_56 rfl (lv_at hl 4 rfl) ?_
      obtain ⟨y10, ey10⟩ : ∃ y : Int32, y = y8 + (-1) := ⟨_, rfl⟩
      have h := h y10 ey10
      refine lv_iinc (v := y10) (lv' := [(5, .int y10), (0, .int y6), (4, .int y7), (3, .int y6), (2, .ref (eA E 16)), (6, .int x6)]) hx hb dJ6_getChars_ba4f3_57 hl (k := 0) rfl (by rw [ey10]; first | rfl | decide) (by decide) rfl (fun ls hl => ?_)
      refine lv_iload hx hb dJ6_getChars_ba4f3_60 (lv_at hl 0 rfl) ?_
      exact h.elim
  refine lv_iload_n hx hb dJ6_getChars_ba4f3_0 rfl (lv_at hl 1 rfl) ?_
  refine lv_istore (lv' := [(5, .int p1), (0, .int p0), (1, .int p1), (2, .ref (eA E 16))]) hx hb dJ6_getChars_ba4f3_1 hl (by decide) rfl (fun ls hl => ?_)
  refine lv_iload_n hx hb dJ6_getChars_ba4f3_3 rfl (lv_at hl 1 rfl) ?_
  refine lv_if_ge (tgt := 11) hx hb dJ6_getChars_ba4f3_4 (by decide) (fun c1 => ?_) (fun c1 => ?_)
  · have h := h.1 c1
    refine lv_iconst (v := 0) hx hb dJ6_getChars_ba4f3_11 (by decide) ?_
    refine lv_istore (lv' := [(6, .int 0), (5, .int p1), (0, .int p0), (1, .int p1), (2, .ref (eA E 16))]) hx hb dJ6_getChars_ba4f3_12 hl (by decide) rfl (fun ls hl => ?_)
    refine lv_iload hx hb dJ6_getChars_ba4f3_14 (lv_at hl 0 rfl) ?_
    refine lv_if_ne (tgt := 22) hx hb dJ6_getChars_ba4f3_16 (by decide) (fun c2 => ?_) (fun c2 => ?_)
    · exact absurd c2 (by decide)
    · refine lv_iload_n hx hb dJ6_getChars_ba4f3_19 rfl (lv_at hl 2 rfl) ?_
      refine lv_ineg hx hb dJ6_getChars_ba4f3_20 ?_
      refine lv_topi (fun y1 ey1 => ?_)
      have h := h y1 ey1
      refine lv_istore_n (lv' := [(0, .int y1), (6, .int 0), (5, .int p1), (1, .int p1), (2, .ref (eA E 16))]) hx hb dJ6_getChars_ba4f3_21 rfl hl (by decide) rfl (fun ls hl => ?_)
      exact h _ _ hw _ (lv_sub hl [0, 4, 2, 1] rfl)
  · have h := h.2 c1
    refine lv_iconst (v := 1) hx hb dJ6_getChars_ba4f3_7 (by decide) ?_
    refine lv_goto (tgt := 12) hx hb dJ6_getChars_ba4f3_8 (by decide) ?_
    refine lv_istore (lv' := [(6, .int 1), (5, .int p1), (0, .int p0), (1, .int p1), (2, .ref (eA E 16))]) hx hb dJ6_getChars_ba4f3_12 hl (by decide) rfl (fun ls hl => ?_)
    refine lv_iload hx hb dJ6_getChars_ba4f3_14 (lv_at hl 0 rfl) ?_
    refine lv_if_ne (tgt := 22) hx hb dJ6_getChars_ba4f3_16 (by decide) (fun c3 => ?_) (fun c3 => ?_)
    · exact h _ _ hw _ (lv_sub hl [2, 4, 1, 0] rfl)
    · exact absurd c3 (by decide)
theorem hy_J8_newLength_cabcc : yJ8_newLength_cabcc.cls ≠ "java/lang/invoke/MethodHandle" ∧ yJ8_newLength_cabcc.cls ≠ "java/lang/invoke/VarHandle" ∧ (parseMethodDescriptor yJ8_newLength_cabcc.desc).map (fun d => d.parameters.length) = some 3 := by decide +kernel
def wp_J8_newLength_cabcc (w : Wd) (p0 : Int32) (p1 : Int32) (p2 : Int32) (Post : Int32 → Wd → Prop) : Prop :=
  ∀ y1 : Int32, y1 = p0 + (if p1 < p2 then p2 else p1) → ((y1 ≤ 0 → (False)) ∧ (¬ y1 ≤ 0 → ((2147483639 < y1 → (False)) ∧ (¬ 2147483639 < y1 → (Post y1 w)))))
set_option maxHeartbeats 4000000 in
set_option maxRecDepth 100000 in
theorem mt_J8_newLength_cabcc (l : Launch) {E : En} (hI : Inj E) (w : Wd) (p0 : Int32) (p1 : Int32) (p2 : Int32) {Post : Int32 → Wd → Prop} (h : wp_J8_newLength_cabcc w p0 p1 p2 Post) : MI l E yJ8_newLength_cabcc cJ8_newLength_cabcc 4 (some .int) 1 14 [.int p0, .int p1, .int p2] w Post := by
  refine MG.intro hI (by decide +kernel) (Nat.le_of_ble_eq_true rfl) ?_
  intro p e s m args below meth c Q C hr hlk hQ hw ls hl
  have hx := C.1
  have hb := C.2.1
  have hl : lv_has ls 4 [(0, .int p0), (1, .int p1), (2, .int p2)] := hl
  unfold wp_J8_newLength_cabcc at h
  refine lv_iload_n hx hb dJ8_newLength_cabcc_0 rfl (lv_at hl 0 rfl) ?_
  refine lv_iload_n hx hb dJ8_newLength_cabcc_1 rfl (lv_at hl 1 rfl) ?_
  refine lv_iload_n hx hb dJ8_newLength_cabcc_2 rfl (lv_at hl 2 rfl) ?_
  refine r_max C hl.1 K_m_J8_194 ⟨Nat.le_of_ble_eq_true rfl, Nat.le_of_ble_eq_true rfl⟩ ⟨Nat.zero_le _, Nat.zero_le _⟩ dJ8_newLength_cabcc_3 ?_
  refine lv_iadd hx hb dJ8_newLength_cabcc_6 ?_
  refine lv_topi (fun y1 ey1 => ?_)
  have h := h y1 ey1
  refine lv_istore_n (lv' := [(3, .int y1), (0, .int p0), (1, .int p1), (2, .int p2)]) hx hb dJ8_newLength_cabcc_7 rfl hl (by decide) rfl (fun ls hl => ?_)
  refine lv_iconst (v := 0) hx hb dJ8_newLength_cabcc_8 (by decide) ?_
  refine lv_iload_n hx hb dJ8_newLength_cabcc_9 rfl (lv_at hl 0 rfl) ?_
  refine lv_icmp_ge (tgt := 21) hx hb dJ8_newLength_cabcc_10 (by decide) (fun c1 => ?_) (fun c1 => ?_)
  · have h := h.1 c1
    refine lv_iload_n hx hb dJ8_newLength_cabcc_21 rfl (lv_at hl 1 rfl) ?_
    refine lv_iload_n hx hb dJ8_newLength_cabcc_22 rfl (lv_at hl 2 rfl) ?_
    exact h.elim
  · have h := h.2 c1
    refine lv_iload_n hx hb dJ8_newLength_cabcc_13 rfl (lv_at hl 0 rfl) ?_
    refine lv_ldc (v := 2147483639) hx hb C.2.2.2.1 (C.2.2.2.2.1 _ K_t_J8_200) dJ8_newLength_cabcc_14 ?_
    refine lv_icmp_gt (tgt := 21) hx hb dJ8_newLength_cabcc_16 (by decide) (fun c2 => ?_) (fun c2 => ?_)
    · have h := h.1 c2
      refine lv_iload_n hx hb dJ8_newLength_cabcc_21 rfl (lv_at hl 1 rfl) ?_
      refine lv_iload_n hx hb dJ8_newLength_cabcc_22 rfl (lv_at hl 2 rfl) ?_
      exact h.elim
    · have h := h.2 c2
      refine lv_iload_n hx hb dJ8_newLength_cabcc_19 rfl (lv_at hl 0 rfl) ?_
      rw [hQ]
      exact ret_i C hr hlk hw h dJ8_newLength_cabcc_20
theorem hy_J5_isLatin1_aae02 : yJ5_isLatin1_aae02.cls ≠ "java/lang/invoke/MethodHandle" ∧ yJ5_isLatin1_aae02.cls ≠ "java/lang/invoke/VarHandle" ∧ (parseMethodDescriptor yJ5_isLatin1_aae02.desc).map (fun d => d.parameters.length) = some 0 := by decide +kernel
def wp_J5_isLatin1_aae02 (w : Wd) (Post : Int32 → Wd → Prop) : Prop :=
  ((gI w 15 1) = 0 → (Post 1 w)) ∧ (¬ (gI w 15 1) = 0 → (Post 0 w))
set_option maxHeartbeats 4000000 in
set_option maxRecDepth 100000 in
theorem mt_J5_isLatin1_aae02 (l : Launch) {E : En} (hI : Inj E) (hF : ∀ o, (o = 15 ∨ o = 16) → o ∈ eL E) (w : Wd) {Post : Int32 → Wd → Prop} (h : wp_J5_isLatin1_aae02 w Post) : MI l E yJ5_isLatin1_aae02 cJ5_isLatin1_aae02 1 (some .boolean) 0 0 [.ref (eA E 15)] w Post := by
  refine MG.intro hI (by decide +kernel) (Nat.le_of_ble_eq_true rfl) ?_
  intro p e s m args below meth c Q C hr hlk hQ hw ls hl
  have hx := C.1
  have hb := C.2.1
  have hl : lv_has ls 1 [(0, .ref (eA E 15))] := hl
  unfold wp_J5_isLatin1_aae02 at h
  refine va_gets hx hb C.2.2.2.2.2.2.1.2.2.2.2.2.1 hw.2 C.2.2.2.1 (C.2.2.2.2.1 _ K_f_J5_18) (fun _ h => h) dJ5_isLatin1_aae02_0 ?_
  refine lv_if_eq (tgt := 17) hx hb dJ5_isLatin1_aae02_3 (by decide) (fun c1 => ?_) (fun c1 => ?_)
  · exact absurd c1 (by decide)
  · refine lv_aload_n hx hb dJ5_isLatin1_aae02_6 rfl (lv_at hl 0 rfl) ?_
    refine g9_1 C hw (hF 15 (by decide)) K_f_J5_22 dJ5_isLatin1_aae02_7 ?_
    refine lv_if_ne (tgt := 17) hx hb dJ5_isLatin1_aae02_10 (by decide) (fun c2 => ?_) (fun c2 => ?_)
    · have h := h.2 c2
      refine lv_iconst (v := 0) hx hb dJ5_isLatin1_aae02_17 (by decide) ?_
      rw [hQ]
      exact ret_z C hr hlk hw h (by decide) dJ5_isLatin1_aae02_18
    · have h := h.1 c2
      refine lv_iconst (v := 1) hx hb dJ5_isLatin1_aae02_13 (by decide) ?_
      refine lv_goto (tgt := 18) hx hb dJ5_isLatin1_aae02_14 (by decide) ?_
      rw [hQ]
      exact ret_z C hr hlk hw h (by decide) dJ5_isLatin1_aae02_18
theorem hy_J5_newCapacity_0f7a4 : yJ5_newCapacity_0f7a4.cls ≠ "java/lang/invoke/MethodHandle" ∧ yJ5_newCapacity_0f7a4.cls ≠ "java/lang/invoke/VarHandle" ∧ (parseMethodDescriptor yJ5_newCapacity_0f7a4.desc).map (fun d => d.parameters.length) = some 1 := by decide +kernel
def wp_J5_newCapacity_0f7a4 (w : Wd) (p1 : Int32) (Post : Int32 → Wd → Prop) : Prop :=
  ∀ y1 : Int32, y1 = nI (gI w 16 0).toNatClampNeg → (∀ y2 : Int32, y2 = p1 <<< ((gI w 15 1) &&& 31) → (∀ y3 : Int32, y3 = y2 - y1 → (wp_J8_newLength_cabcc w y1 y3 (y1 + ((2 : Int32) <<< ((gI w 15 1) &&& 31))) (fun r1 w1 => (r1 = 2147483647 → (False)) ∧ (¬ r1 = 2147483647 → (Post (r1 >>> ((gI w1 15 1) &&& 31)) w1))))))
set_option maxHeartbeats 4000000 in
set_option maxRecDepth 100000 in
theorem mt_J5_newCapacity_0f7a4 (l : Launch) {E : En} (hI : Inj E) (hF : ∀ o, (o = 15 ∨ o = 16) → o ∈ eL E) (w : Wd) (p1 : Int32) {Post : Int32 → Wd → Prop} (h : wp_J5_newCapacity_0f7a4 w p1 Post) : MI l E yJ5_newCapacity_0f7a4 cJ5_newCapacity_0f7a4 6 (some .int) 2 37 [.ref (eA E 15), .int p1] w Post := by
  refine MG.intro hI (by decide +kernel) (Nat.le_of_ble_eq_true rfl) ?_
  intro p e s m args below meth c Q C hr hlk hQ hw ls hl
  have hx := C.1
  have hb := C.2.1
  have hl : lv_has ls 6 [(0, .ref (eA E 15)), (1, .int p1)] := hl
  unfold wp_J5_newCapacity_0f7a4 at h
  refine lv_aload_n hx hb dJ5_newCapacity_0f7a4_0 rfl (lv_at hl 0 rfl) ?_
  refine g9_0 C hw (hF 15 (by decide)) K_f_J5_15 dJ5_newCapacity_0f7a4_1 ?_
  refine r_ralen C hw (hF 16 (by decide)) dJ5_newCapacity_0f7a4_4 ?_
  refine lv_topi (fun y1 ey1 => ?_)
  have h := h y1 ey1
  refine lv_istore_n (lv' := [(2, .int y1), (0, .ref (eA E 15)), (1, .int p1)]) hx hb dJ5_newCapacity_0f7a4_5 rfl hl (by decide) rfl (fun ls hl => ?_)
  refine lv_iload_n hx hb dJ5_newCapacity_0f7a4_6 rfl (lv_at hl 2 rfl) ?_
  refine lv_aload_n hx hb dJ5_newCapacity_0f7a4_7 rfl (lv_at hl 1 rfl) ?_
  refine g9_1 C hw (hF 15 (by decide)) K_f_J5_22 dJ5_newCapacity_0f7a4_8 ?_
  refine lv_ishl hx hb dJ5_newCapacity_0f7a4_11 ?_
  refine lv_topi (fun y2 ey2 => ?_)
  have h := h y2 ey2
  refine lv_istore_n (lv' := [(3, .int y2), (2, .int y1), (0, .ref (eA E 15)), (1, .int p1)]) hx hb dJ5_newCapacity_0f7a4_12 rfl hl (by decide) rfl (fun ls hl => ?_)
  refine lv_iload_n hx hb dJ5_newCapacity_0f7a4_13 rfl (lv_at hl 0 rfl) ?_
  refine lv_iload_n hx hb dJ5_newCapacity_0f7a4_14 rfl (lv_at hl 1 rfl) ?_
  refine lv_isub hx hb dJ5_newCapacity_0f7a4_15 ?_
  refine lv_topi (fun y3 ey3 => ?_)
  have h := h y3 ey3
  refine lv_istore (lv' := [(4, .int y3), (3, .int y2), (2, .int y1), (0, .ref (eA E 15)), (1, .int p1)]) hx hb dJ5_newCapacity_0f7a4_16 hl (by decide) rfl (fun ls hl => ?_)
  refine lv_iload_n hx hb dJ5_newCapacity_0f7a4_18 rfl (lv_at hl 2 rfl) ?_
  refine lv_iload hx hb dJ5_newCapacity_0f7a4_19 (lv_at hl 0 rfl) ?_
  refine lv_iload_n hx hb dJ5_newCapacity_0f7a4_21 rfl (lv_at hl 2 rfl) ?_
  refine lv_iconst (v := 2) hx hb dJ5_newCapacity_0f7a4_22 (by decide) ?_
  refine lv_aload_n hx hb dJ5_newCapacity_0f7a4_23 rfl (lv_at hl 3 rfl) ?_
  refine g9_1 C hw (hF 15 (by decide)) K_f_J5_22 dJ5_newCapacity_0f7a4_24 ?_
  refine lv_ishl hx hb dJ5_newCapacity_0f7a4_27 ?_
  refine lv_iadd hx hb dJ5_newCapacity_0f7a4_28 ?_
  refine done_i hw (my_runS (As := [.int y1, .int y3, .int (y1 + ((2 : Int32) <<< ((gI w 15 1) &&& 31)))]) (rest := []) C hw (mt_J8_newLength_cabcc l C.2.2.2.2.2.2.2 _ _ _ _ h) K_m_J5_114 K_s_J8_newLength_cabcc K_n_J8 K_c_J8_newLength_cabcc hy_J8_newLength_cabcc ⟨Nat.le_of_ble_eq_true rfl, Nat.le_of_ble_eq_true rfl⟩ hl.1 rfl (Nat.le_of_ble_eq_true rfl) dJ5_newCapacity_0f7a4_29 ⟨Nat.zero_le _, Nat.zero_le _⟩) (fun r1 w1 H locs h hw => ?_)
  refine lv_istore (lv' := [(5, .int r1), (4, .int y3), (3, .int y2), (2, .int y1), (0, .ref (eA E 15)), (1, .int p1)]) hx hb dJ5_newCapacity_0f7a4_32 hl (by decide) rfl (fun ls hl => ?_)
  refine lv_iload hx hb dJ5_newCapacity_0f7a4_34 (lv_at hl 0 rfl) ?_
  refine lv_ldc (v := 2147483647) hx hb C.2.2.2.1 (C.2.2.2.2.1 _ K_t_J5_39) dJ5_newCapacity_0f7a4_36 ?_
  refine lv_icmp_ne (tgt := 51) hx hb dJ5_newCapacity_0f7a4_38 (by decide) (fun c1 => ?_) (fun c1 => ?_)
  · have h := h.2 c1
    refine lv_iload hx hb dJ5_newCapacity_0f7a4_51 (lv_at hl 0 rfl) ?_
    refine lv_aload_n hx hb dJ5_newCapacity_0f7a4_53 rfl (lv_at hl 4 rfl) ?_
    refine g9_1 C hw (hF 15 (by decide)) K_f_J5_22 dJ5_newCapacity_0f7a4_54 ?_
    refine lv_ishr hx hb dJ5_newCapacity_0f7a4_57 ?_
    rw [hQ]
    exact ret_i C hr hlk hw h dJ5_newCapacity_0f7a4_58
  · have h := h.1 c1
    exact h.elim
theorem hy_J0_getBytes_840e7 : yJ0_getBytes_840e7.cls ≠ "java/lang/invoke/MethodHandle" ∧ yJ0_getBytes_840e7.cls ≠ "java/lang/invoke/VarHandle" ∧ (parseMethodDescriptor yJ0_getBytes_840e7.desc).map (fun d => d.parameters.length) = some 3 := by decide +kernel
def wp_J0_getBytes_840e7 (si0 : Nat) (w : Wd) (p2 : Int32) (p3 : Int32) (Post : Wd → Prop) : Prop :=
  wp_J0_coder_7d493 si0 w (fun r1 w1 => (r1 = p3 → ((¬ (p2 <<< (p3 &&& 31)) < 0 ∧ (p2 <<< (p3 &&& 31)).toNatClampNeg + strLen.getD si0 0 ≤ (gI w1 16 0).toNatClampNeg) ∧ (Post (sF w1 16 (va_cpy (fun j => (strBy.getD si0 []).getD j 0) (gA w1 16) 0 (p2 <<< (p3 &&& 31)).toNatClampNeg (strLen.getD si0 0)))))) ∧ (¬ r1 = p3 → (False)))
set_option maxHeartbeats 4000000 in
set_option maxRecDepth 100000 in
theorem mt_J0_getBytes_840e7 (l : Launch) {E : En} (hI : Inj E) (hF : ∀ o, (o = 15 ∨ o = 16) → o ∈ eL E) (si0 : Nat) (hsi0 : si0 < 18) (w : Wd) (p2 : Int32) (p3 : Int32) {Post : Wd → Prop} (h : wp_J0_getBytes_840e7 si0 w p2 p3 Post) : MV l E yJ0_getBytes_840e7 cJ0_getBytes_840e7 4 none 1 20 [.ref (eT E (1 + si0)), .ref (eA E 16), .int p2, .int p3] w Post := by
  refine MG.intro hI (by decide +kernel) (Nat.le_of_ble_eq_true rfl) ?_
  intro p e s m args below meth c Q C hr hlk hQ hw ls hl
  have hx := C.1
  have hb := C.2.1
  have hl : lv_has ls 4 [(0, .ref (eT E (1 + si0))), (1, .ref (eA E 16)), (2, .int p2), (3, .int p3)] := hl
  unfold wp_J0_getBytes_840e7 at h
  refine lv_aload_n hx hb dJ0_getBytes_840e7_0 rfl (lv_at hl 0 rfl) ?_
  refine done_i hw (my_runVS (As := []) (rest := []) C hw si0 hsi0 (mt_J0_coder_7d493 l C.2.2.2.2.2.2.2 si0 hsi0 _ h) K_m_J0_335 K_i_J0_coder_7d493 K_v_J0_coder_7d493 K_n_J0 K_c_J0_coder_7d493 hy_J0_coder_7d493 ⟨Nat.le_of_ble_eq_true rfl, Nat.le_of_ble_eq_true rfl⟩ hl.1 rfl (Nat.le_of_ble_eq_true rfl) dJ0_getBytes_840e7_1 ⟨Nat.zero_le _, Nat.zero_le _⟩) (fun r1 w1 H locs h hw => ?_)
  refine lv_iload_n hx hb dJ0_getBytes_840e7_4 rfl (lv_at hl 3 rfl) ?_
  refine lv_icmp_ne (tgt := 28) hx hb dJ0_getBytes_840e7_5 (by decide) (fun c1 => ?_) (fun c1 => ?_)
  · have h := h.2 c1
    refine lv_aload_n hx hb dJ0_getBytes_840e7_28 rfl (lv_at hl 0 rfl) ?_
    refine vk_getf hx hb ((c_vkS C).1 si0 hsi0).2.2.1 hw.2 C.2.2.2.1 (C.2.2.2.2.1 _ K_f_J0_9) (fun _ h => h) dJ0_getBytes_840e7_29 ?_
    refine lv_iconst (v := 0) hx hb dJ0_getBytes_840e7_32 (by decide) ?_
    refine lv_aload_n hx hb dJ0_getBytes_840e7_33 rfl (lv_at hl 1 rfl) ?_
    refine lv_iload_n hx hb dJ0_getBytes_840e7_34 rfl (lv_at hl 2 rfl) ?_
    refine lv_aload_n hx hb dJ0_getBytes_840e7_35 rfl (lv_at hl 0 rfl) ?_
    refine vk_getf hx hb ((c_vkS C).1 si0 hsi0).2.2.1 hw.2 C.2.2.2.1 (C.2.2.2.2.1 _ K_f_J0_9) (fun _ h => h) dJ0_getBytes_840e7_36 ?_
    refine va_tlen hx hb ((c_vkS C).1 si0 hsi0).2.2.2 hw.2 (v := nI (strLen.getD si0 0)) rfl dJ0_getBytes_840e7_39 ?_
    exact h.elim
  · have h := h.1 c1
    refine lv_aload_n hx hb dJ0_getBytes_840e7_8 rfl (lv_at hl 0 rfl) ?_
    refine vk_getf hx hb ((c_vkS C).1 si0 hsi0).2.2.1 hw.2 C.2.2.2.1 (C.2.2.2.2.1 _ K_f_J0_9) (fun _ h => h) dJ0_getBytes_840e7_9 ?_
    refine lv_iconst (v := 0) hx hb dJ0_getBytes_840e7_12 (by decide) ?_
    refine lv_aload_n hx hb dJ0_getBytes_840e7_13 rfl (lv_at hl 1 rfl) ?_
    refine lv_iload_n hx hb dJ0_getBytes_840e7_14 rfl (lv_at hl 2 rfl) ?_
    refine lv_iload_n hx hb dJ0_getBytes_840e7_15 rfl (lv_at hl 3 rfl) ?_
    refine lv_ishl hx hb dJ0_getBytes_840e7_16 ?_
    refine lv_aload_n hx hb dJ0_getBytes_840e7_17 rfl (lv_at hl 0 rfl) ?_
    refine vk_getf hx hb ((c_vkS C).1 si0 hsi0).2.2.1 hw.2 C.2.2.2.1 (C.2.2.2.2.1 _ K_f_J0_9) (fun _ h => h) dJ0_getBytes_840e7_18 ?_
    refine va_tlen hx hb ((c_vkS C).1 si0 hsi0).2.2.2 hw.2 (v := nI (strLen.getD si0 0)) rfl dJ0_getBytes_840e7_21 ?_
    obtain ⟨hz1, h⟩ := h
    refine r_copyt C hw hl.1 si0 hsi0 K_m_J0_212 (hF 16 (by decide)) rfl hz1.1 hz1.2 ⟨Nat.le_of_ble_eq_true rfl, Nat.le_of_ble_eq_true rfl⟩ dJ0_getBytes_840e7_22 (fun H locs hw => ?_)
    refine lv_goto (tgt := 43) hx hb dJ0_getBytes_840e7_25 (by decide) ?_
    rw [hQ]
    exact ret_v C hr hlk hw h dJ0_getBytes_840e7_43
theorem hy_J5_inflateIfNeededFor_a7421 : yJ5_inflateIfNeededFor_a7421.cls ≠ "java/lang/invoke/MethodHandle" ∧ yJ5_inflateIfNeededFor_a7421.cls ≠ "java/lang/invoke/VarHandle" ∧ (parseMethodDescriptor yJ5_inflateIfNeededFor_a7421.desc).map (fun d => d.parameters.length) = some 1 := by decide +kernel
def wp_J5_inflateIfNeededFor_a7421 (si1 : Nat) (w : Wd) (Post : Wd → Prop) : Prop :=
  wp_J0_coder_7d493 si1 w (fun r1 w1 => ((gI w 15 1) = r1 → (Post w1)) ∧ (¬ (gI w 15 1) = r1 → (False)))
set_option maxHeartbeats 4000000 in
set_option maxRecDepth 100000 in
theorem mt_J5_inflateIfNeededFor_a7421 (l : Launch) {E : En} (hI : Inj E) (hF : ∀ o, (o = 15 ∨ o = 16) → o ∈ eL E) (si1 : Nat) (hsi1 : si1 < 18) (w : Wd) {Post : Wd → Prop} (h : wp_J5_inflateIfNeededFor_a7421 si1 w Post) : MV l E yJ5_inflateIfNeededFor_a7421 cJ5_inflateIfNeededFor_a7421 2 none 1 20 [.ref (eA E 15), .ref (eT E (1 + si1))] w Post := by
  refine MG.intro hI (by decide +kernel) (Nat.le_of_ble_eq_true rfl) ?_
  intro p e s m args below meth c Q C hr hlk hQ hw ls hl
  have hx := C.1
  have hb := C.2.1
  have hl : lv_has ls 2 [(0, .ref (eA E 15)), (1, .ref (eT E (1 + si1)))] := hl
  unfold wp_J5_inflateIfNeededFor_a7421 at h
  refine va_gets hx hb C.2.2.2.2.2.2.1.2.2.2.2.2.1 hw.2 C.2.2.2.1 (C.2.2.2.2.1 _ K_f_J5_18) (fun _ h => h) dJ5_inflateIfNeededFor_a7421_0 ?_
  refine lv_if_eq (tgt := 21) hx hb dJ5_inflateIfNeededFor_a7421_3 (by decide) (fun c1 => ?_) (fun c1 => ?_)
  · exact absurd c1 (by decide)
  · refine lv_aload_n hx hb dJ5_inflateIfNeededFor_a7421_6 rfl (lv_at hl 0 rfl) ?_
    refine g9_1 C hw (hF 15 (by decide)) K_f_J5_22 dJ5_inflateIfNeededFor_a7421_7 ?_
    refine lv_aload_n hx hb dJ5_inflateIfNeededFor_a7421_10 rfl (lv_at hl 1 rfl) ?_
    refine done_i hw (my_runVS (As := []) (rest := [.int (gI w 15 1)]) C hw si1 hsi1 (mt_J0_coder_7d493 l C.2.2.2.2.2.2.2 si1 hsi1 _ h) K_m_J5_40 K_i_J0_coder_7d493 K_v_J0_coder_7d493 K_n_J0 K_c_J0_coder_7d493 hy_J0_coder_7d493 ⟨Nat.le_of_ble_eq_true rfl, Nat.le_of_ble_eq_true rfl⟩ hl.1 rfl (Nat.le_of_ble_eq_true rfl) dJ5_inflateIfNeededFor_a7421_11 ⟨Nat.zero_le _, Nat.zero_le _⟩) (fun r1 w1 H locs h hw => ?_)
    refine lv_icmp_eq (tgt := 21) hx hb dJ5_inflateIfNeededFor_a7421_14 (by decide) (fun c2 => ?_) (fun c2 => ?_)
    · have h := h.1 c2
      rw [hQ]
      exact ret_v C hr hlk hw h dJ5_inflateIfNeededFor_a7421_21
    · have h := h.2 c2
      refine lv_aload_n hx hb dJ5_inflateIfNeededFor_a7421_17 rfl (lv_at hl 0 rfl) ?_
      exact h.elim
theorem hy_J5_putStringAt_47b60 : yJ5_putStringAt_47b60.cls ≠ "java/lang/invoke/MethodHandle" ∧ yJ5_putStringAt_47b60.cls ≠ "java/lang/invoke/VarHandle" ∧ (parseMethodDescriptor yJ5_putStringAt_47b60.desc).map (fun d => d.parameters.length) = some 2 := by decide +kernel
def wp_J5_putStringAt_47b60 (si2 : Nat) (w : Wd) (p1 : Int32) (Post : Wd → Prop) : Prop :=
  wp_J5_inflateIfNeededFor_a7421 si2 w (fun w1 => wp_J0_getBytes_840e7 si2 w1 p1 (gI w1 15 1) (fun w2 => Post w2))
set_option maxHeartbeats 4000000 in
set_option maxRecDepth 100000 in
theorem mt_J5_putStringAt_47b60 (l : Launch) {E : En} (hI : Inj E) (hF : ∀ o, (o = 15 ∨ o = 16) → o ∈ eL E) (si2 : Nat) (hsi2 : si2 < 18) (w : Wd) (p1 : Int32) {Post : Wd → Prop} (h : wp_J5_putStringAt_47b60 si2 w p1 Post) : MV l E yJ5_putStringAt_47b60 cJ5_putStringAt_47b60 3 none 2 43 [.ref (eA E 15), .int p1, .ref (eT E (1 + si2))] w Post := by
  refine MG.intro hI (by decide +kernel) (Nat.le_of_ble_eq_true rfl) ?_
  intro p e s m args below meth c Q C hr hlk hQ hw ls hl
  have hx := C.1
  have hb := C.2.1
  have hl : lv_has ls 3 [(0, .ref (eA E 15)), (1, .int p1), (2, .ref (eT E (1 + si2)))] := hl
  unfold wp_J5_putStringAt_47b60 at h
  refine lv_aload_n hx hb dJ5_putStringAt_47b60_0 rfl (lv_at hl 0 rfl) ?_
  refine lv_aload_n hx hb dJ5_putStringAt_47b60_1 rfl (lv_at hl 2 rfl) ?_
  refine done_v hw (my_runV (As := [.ref (eT E (1 + si2))]) (rest := []) C hw 15 9 (hF 15 (by decide)) rfl rfl (mt_J5_inflateIfNeededFor_a7421 l C.2.2.2.2.2.2.2 hF si2 hsi2 _ h) K_m_J5_397 K_i_J5_inflateIfNeededFor_a7421 K_vs_J5_inflateIfNeededFor_a7421 K_n_J5 K_c_J5_inflateIfNeededFor_a7421 hy_J5_inflateIfNeededFor_a7421 ⟨Nat.le_of_ble_eq_true rfl, Nat.le_of_ble_eq_true rfl⟩ hl.1 rfl (Nat.le_of_ble_eq_true rfl) dJ5_putStringAt_47b60_2 ⟨Nat.zero_le _, Nat.zero_le _⟩) (fun w1 H locs h hw => ?_)
  refine lv_aload_n hx hb dJ5_putStringAt_47b60_5 rfl (lv_at hl 2 rfl) ?_
  refine lv_aload_n hx hb dJ5_putStringAt_47b60_6 rfl (lv_at hl 0 rfl) ?_
  refine g9_0 C hw (hF 15 (by decide)) K_f_J5_15 dJ5_putStringAt_47b60_7 ?_
  refine lv_iload_n hx hb dJ5_putStringAt_47b60_10 rfl (lv_at hl 1 rfl) ?_
  refine lv_aload_n hx hb dJ5_putStringAt_47b60_11 rfl (lv_at hl 0 rfl) ?_
  refine g9_1 C hw (hF 15 (by decide)) K_f_J5_22 dJ5_putStringAt_47b60_12 ?_
  refine done_v hw (my_runVS (As := [.ref (eA E 16), .int p1, .int (gI w1 15 1)]) (rest := []) C hw si2 hsi2 (mt_J0_getBytes_840e7 l C.2.2.2.2.2.2.2 hF si2 hsi2 _ _ _ h) K_m_J5_399 K_i_J0_getBytes_840e7 K_v_J0_getBytes_840e7 K_n_J0 K_c_J0_getBytes_840e7 hy_J0_getBytes_840e7 ⟨Nat.le_of_ble_eq_true rfl, Nat.le_of_ble_eq_true rfl⟩ hl.1 rfl (Nat.le_of_ble_eq_true rfl) dJ5_putStringAt_47b60_15 ⟨Nat.zero_le _, Nat.zero_le _⟩) (fun w2 H locs h hw => ?_)
  rw [hQ]
  exact ret_v C hr hlk hw h dJ5_putStringAt_47b60_18
theorem hy_J5_length_8abf5 : yJ5_length_8abf5.cls ≠ "java/lang/invoke/MethodHandle" ∧ yJ5_length_8abf5.cls ≠ "java/lang/invoke/VarHandle" ∧ (parseMethodDescriptor yJ5_length_8abf5.desc).map (fun d => d.parameters.length) = some 0 := by decide +kernel
def wp_J5_length_8abf5 (w : Wd) (Post : Int32 → Wd → Prop) : Prop :=
  Post (gI w 15 3) w
set_option maxHeartbeats 4000000 in
set_option maxRecDepth 100000 in
theorem mt_J5_length_8abf5 (l : Launch) {E : En} (hI : Inj E) (hF : ∀ o, (o = 15 ∨ o = 16) → o ∈ eL E) (w : Wd) {Post : Int32 → Wd → Prop} (h : wp_J5_length_8abf5 w Post) : MI l E yJ5_length_8abf5 cJ5_length_8abf5 1 (some .int) 0 0 [.ref (eA E 15)] w Post := by
  refine MG.intro hI (by decide +kernel) (Nat.le_of_ble_eq_true rfl) ?_
  intro p e s m args below meth c Q C hr hlk hQ hw ls hl
  have hx := C.1
  have hb := C.2.1
  have hl : lv_has ls 1 [(0, .ref (eA E 15))] := hl
  unfold wp_J5_length_8abf5 at h
  refine lv_aload_n hx hb dJ5_length_8abf5_0 rfl (lv_at hl 0 rfl) ?_
  refine g9_3 C hw (hF 15 (by decide)) K_f_J5_79 dJ5_length_8abf5_1 ?_
  rw [hQ]
  exact ret_i C hr hlk hw h dJ5_length_8abf5_4
theorem hy_J5_charAt_5068e : yJ5_charAt_5068e.cls ≠ "java/lang/invoke/MethodHandle" ∧ yJ5_charAt_5068e.cls ≠ "java/lang/invoke/VarHandle" ∧ (parseMethodDescriptor yJ5_charAt_5068e.desc).map (fun d => d.parameters.length) = some 1 := by decide +kernel
def wp_J5_charAt_5068e (w : Wd) (p1 : Int32) (Post : Int32 → Wd → Prop) : Prop :=
  ∀ y1 : Int32, y1 = gI w 15 1 → (∀ y2 : Int32, y2 = (if ((nI (gI w 16 0).toNatClampNeg) >>> (y1 &&& 31)) < (gI w 15 3) then ((nI (gI w 16 0).toNatClampNeg) >>> (y1 &&& 31)) else (gI w 15 3)) → (wp_J0_checkIndex_df160 w p1 y2 (fun w1 => (y1 = 0 → (vp_in p1 (gI w1 16 0).toNatClampNeg ∧ (Post ((gA w1 16 p1.toNatClampNeg) &&& 255) w1))) ∧ (¬ y1 = 0 → (False)))))
set_option maxHeartbeats 4000000 in
set_option maxRecDepth 100000 in
theorem mt_J5_charAt_5068e (l : Launch) {E : En} (hI : Inj E) (hF : ∀ o, (o = 15 ∨ o = 16) → o ∈ eL E) (w : Wd) (p1 : Int32) {Post : Int32 → Wd → Prop} (h : wp_J5_charAt_5068e w p1 Post) : MI l E yJ5_charAt_5068e cJ5_charAt_5068e 5 (some .char) 2 43 [.ref (eA E 15), .int p1] w Post := by
  refine MG.intro hI (by decide +kernel) (Nat.le_of_ble_eq_true rfl) ?_
  intro p e s m args below meth c Q C hr hlk hQ hw ls hl
  have hx := C.1
  have hb := C.2.1
  have hl : lv_has ls 5 [(0, .ref (eA E 15)), (1, .int p1)] := hl
  unfold wp_J5_charAt_5068e at h
  refine lv_aload_n hx hb dJ5_charAt_5068e_0 rfl (lv_at hl 0 rfl) ?_
  refine g9_1 C hw (hF 15 (by decide)) K_f_J5_22 dJ5_charAt_5068e_1 ?_
  refine lv_topi (fun y1 ey1 => ?_)
  have h := h y1 ey1
  refine lv_istore_n (lv' := [(2, .int y1), (0, .ref (eA E 15)), (1, .int p1)]) hx hb dJ5_charAt_5068e_4 rfl hl (by decide) rfl (fun ls hl => ?_)
  refine lv_aload_n hx hb dJ5_charAt_5068e_5 rfl (lv_at hl 1 rfl) ?_
  refine g9_0 C hw (hF 15 (by decide)) K_f_J5_15 dJ5_charAt_5068e_6 ?_
  refine lv_astore_n (lv' := [(3, .ref (eA E 16)), (2, .int y1), (0, .ref (eA E 15)), (1, .int p1)]) hx hb dJ5_charAt_5068e_9 rfl hl (by decide) rfl (fun ls hl => ?_)
  refine lv_aload_n hx hb dJ5_charAt_5068e_10 rfl (lv_at hl 2 rfl) ?_
  refine g9_3 C hw (hF 15 (by decide)) K_f_J5_79 dJ5_charAt_5068e_11 ?_
  refine lv_aload_n hx hb dJ5_charAt_5068e_14 rfl (lv_at hl 0 rfl) ?_
  refine r_ralen C hw (hF 16 (by decide)) dJ5_charAt_5068e_15 ?_
  refine lv_iload_n hx hb dJ5_charAt_5068e_16 rfl (lv_at hl 1 rfl) ?_
  refine lv_ishr hx hb dJ5_charAt_5068e_17 ?_
  refine r_min C hl.1 K_m_J5_138 ⟨Nat.le_of_ble_eq_true rfl, Nat.le_of_ble_eq_true rfl⟩ ⟨Nat.zero_le _, Nat.zero_le _⟩ dJ5_charAt_5068e_18 ?_
  refine lv_topi (fun y2 ey2 => ?_)
  have h := h y2 ey2
  refine lv_istore (lv' := [(4, .int y2), (3, .ref (eA E 16)), (2, .int y1), (0, .ref (eA E 15)), (1, .int p1)]) hx hb dJ5_charAt_5068e_21 hl (by decide) rfl (fun ls hl => ?_)
  refine lv_iload_n hx hb dJ5_charAt_5068e_23 rfl (lv_at hl 4 rfl) ?_
  refine lv_iload hx hb dJ5_charAt_5068e_24 (lv_at hl 0 rfl) ?_
  refine done_v hw (my_runS (As := [.int p1, .int y2]) (rest := []) C hw (mt_J0_checkIndex_df160 l C.2.2.2.2.2.2.2 _ _ _ h) K_m_J5_144 K_s_J0_checkIndex_df160 K_n_J0 K_c_J0_checkIndex_df160 hy_J0_checkIndex_df160 ⟨Nat.le_of_ble_eq_true rfl, Nat.le_of_ble_eq_true rfl⟩ hl.1 rfl (Nat.le_of_ble_eq_true rfl) dJ5_charAt_5068e_26 ⟨Nat.zero_le _, Nat.zero_le _⟩) (fun w1 H locs h hw => ?_)
  refine lv_iload_n hx hb dJ5_charAt_5068e_29 rfl (lv_at hl 2 rfl) ?_
  refine lv_if_ne (tgt := 42) hx hb dJ5_charAt_5068e_30 (by decide) (fun c1 => ?_) (fun c1 => ?_)
  · have h := h.2 c1
    refine lv_aload_n hx hb dJ5_charAt_5068e_42 rfl (lv_at hl 1 rfl) ?_
    refine lv_iload_n hx hb dJ5_charAt_5068e_43 rfl (lv_at hl 4 rfl) ?_
    exact h.elim
  · have h := h.1 c1
    refine lv_aload_n hx hb dJ5_charAt_5068e_33 rfl (lv_at hl 1 rfl) ?_
    refine lv_iload_n hx hb dJ5_charAt_5068e_34 rfl (lv_at hl 4 rfl) ?_
    obtain ⟨hi1, h⟩ := h
    refine r_rald C hw (hF 16 (by decide)) hi1 dJ5_charAt_5068e_35 ?_
    refine lv_sipush (v := 255) hx hb dJ5_charAt_5068e_36 (by decide) ?_
    refine lv_iand hx hb dJ5_charAt_5068e_39 ?_
    refine lv_i2c (v := (gA w1 16 p1.toNatClampNeg) &&& 255) hx hb dJ5_charAt_5068e_40 (sc_c2 _) ?_
    rw [hQ]
    exact ret_n C hr hlk hw h (sc_nar _) dJ5_charAt_5068e_41
theorem hy_J4_length_8abf5 : yJ4_length_8abf5.cls ≠ "java/lang/invoke/MethodHandle" ∧ yJ4_length_8abf5.cls ≠ "java/lang/invoke/VarHandle" ∧ (parseMethodDescriptor yJ4_length_8abf5.desc).map (fun d => d.parameters.length) = some 0 := by decide +kernel
def wp_J4_length_8abf5 (w : Wd) (Post : Int32 → Wd → Prop) : Prop :=
  wp_J5_length_8abf5 w (fun r1 w1 => Post r1 w1)
set_option maxHeartbeats 4000000 in
set_option maxRecDepth 100000 in
theorem mt_J4_length_8abf5 (l : Launch) {E : En} (hI : Inj E) (hF : ∀ o, (o = 15 ∨ o = 16) → o ∈ eL E) (w : Wd) {Post : Int32 → Wd → Prop} (h : wp_J4_length_8abf5 w Post) : MI l E yJ4_length_8abf5 cJ4_length_8abf5 1 (some .int) 1 20 [.ref (eA E 15)] w Post := by
  refine MG.intro hI (by decide +kernel) (Nat.le_of_ble_eq_true rfl) ?_
  intro p e s m args below meth c Q C hr hlk hQ hw ls hl
  have hx := C.1
  have hb := C.2.1
  have hl : lv_has ls 1 [(0, .ref (eA E 15))] := hl
  unfold wp_J4_length_8abf5 at h
  refine lv_aload_n hx hb dJ4_length_8abf5_0 rfl (lv_at hl 0 rfl) ?_
  refine done_i hw (my_runSU (As := []) (rest := []) C hw 15 9 (hF 15 (by decide)) rfl rfl (MG.ME (mt_J5_length_8abf5 l C.2.2.2.2.2.2.2 (fun o a => hF o (by omega)) _ h)) K_m_J4_343 K_i_J5_length_8abf5 K_sm_J5_length_8abf5 K_sup_SB K_n_J5 K_c_J5_length_8abf5 (by decide) hy_J5_length_8abf5 ⟨Nat.le_of_ble_eq_true rfl, Nat.le_of_ble_eq_true rfl⟩ hl.1 rfl (Nat.le_of_ble_eq_true rfl) dJ4_length_8abf5_1 ⟨Nat.le_of_ble_eq_true rfl, Nat.le_of_ble_eq_true rfl⟩) (fun r1 w1 H locs h hw => ?_)
  rw [hQ]
  exact ret_i C hr hlk hw h dJ4_length_8abf5_4
theorem hy_J4_charAt_5068e : yJ4_charAt_5068e.cls ≠ "java/lang/invoke/MethodHandle" ∧ yJ4_charAt_5068e.cls ≠ "java/lang/invoke/VarHandle" ∧ (parseMethodDescriptor yJ4_charAt_5068e.desc).map (fun d => d.parameters.length) = some 1 := by decide +kernel
def wp_J4_charAt_5068e (w : Wd) (p1 : Int32) (Post : Int32 → Wd → Prop) : Prop :=
  wp_J5_charAt_5068e w p1 (fun r1 w1 => narrow .char (.int r1) = .int r1 ∧ Post r1 w1)
set_option maxHeartbeats 4000000 in
set_option maxRecDepth 100000 in
theorem mt_J4_charAt_5068e (l : Launch) {E : En} (hI : Inj E) (hF : ∀ o, (o = 15 ∨ o = 16) → o ∈ eL E) (w : Wd) (p1 : Int32) {Post : Int32 → Wd → Prop} (h : wp_J4_charAt_5068e w p1 Post) : MI l E yJ4_charAt_5068e cJ4_charAt_5068e 2 (some .char) 3 67 [.ref (eA E 15), .int p1] w Post := by
  refine MG.intro hI (by decide +kernel) (Nat.le_of_ble_eq_true rfl) ?_
  intro p e s m args below meth c Q C hr hlk hQ hw ls hl
  have hx := C.1
  have hb := C.2.1
  have hl : lv_has ls 2 [(0, .ref (eA E 15)), (1, .int p1)] := hl
  unfold wp_J4_charAt_5068e at h
  refine lv_aload_n hx hb dJ4_charAt_5068e_0 rfl (lv_at hl 0 rfl) ?_
  refine lv_iload_n hx hb dJ4_charAt_5068e_1 rfl (lv_at hl 1 rfl) ?_
  refine done_i hw (my_runSU (As := [.int p1]) (rest := []) C hw 15 9 (hF 15 (by decide)) rfl rfl (MG.ME (mt_J5_charAt_5068e l C.2.2.2.2.2.2.2 (fun o a => hF o (by omega)) _ _ h)) K_m_J4_329 K_i_J5_charAt_5068e K_sm_J5_charAt_5068e K_sup_SB K_n_J5 K_c_J5_charAt_5068e (by decide) hy_J5_charAt_5068e ⟨Nat.le_of_ble_eq_true rfl, Nat.le_of_ble_eq_true rfl⟩ hl.1 rfl (Nat.le_of_ble_eq_true rfl) dJ4_charAt_5068e_2 ⟨Nat.le_of_ble_eq_true rfl, Nat.le_of_ble_eq_true rfl⟩) (fun r1 w1 H locs h hw => ?_)
  rw [hQ]
  exact ret_n C hr hlk hw h.2 h.1 dJ4_charAt_5068e_5

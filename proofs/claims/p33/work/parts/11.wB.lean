theorem hy_X6_copyFrom : yX6_copyFrom.cls ≠ "java/lang/invoke/MethodHandle" ∧ yX6_copyFrom.cls ≠ "java/lang/invoke/VarHandle" ∧ (parseMethodDescriptor yX6_copyFrom.desc).map (fun d => d.parameters.length) = some 1 := by decide +kernel
def wp_X6_copyFrom (k : Nat) (k1 : Nat) (w : Wd) (Post : Wd → Prop) : Prop :=
  ∀ y1 : Int32, y1 = gI (cpA (cpA (cpA (cpA (cpA (cpA w (27 + 7 * k1 + 1) (27 + 7 * k + 1) 0 0 6) (27 + 7 * k1 + 2) (27 + 7 * k + 2) 0 0 6) (27 + 7 * k1 + 3) (27 + 7 * k + 3) 0 0 6) (27 + 7 * k1 + 4) (27 + 7 * k + 4) 0 0 6) (27 + 7 * k1 + 5) (27 + 7 * k + 5) 0 0 6) (27 + 7 * k1 + 6) (27 + 7 * k + 6) 0 0 3) (27 + 7 * k1) 6 → (∀ y2 : Int32, y2 = gI (sI (cpA (cpA (cpA (cpA (cpA (cpA w (27 + 7 * k1 + 1) (27 + 7 * k + 1) 0 0 6) (27 + 7 * k1 + 2) (27 + 7 * k + 2) 0 0 6) (27 + 7 * k1 + 3) (27 + 7 * k + 3) 0 0 6) (27 + 7 * k1 + 4) (27 + 7 * k + 4) 0 0 6) (27 + 7 * k1 + 5) (27 + 7 * k + 5) 0 0 6) (27 + 7 * k1 + 6) (27 + 7 * k + 6) 0 0 3) (27 + 7 * k) 6 y1) (27 + 7 * k1) 7 → (Post (sI (sI (cpA (cpA (cpA (cpA (cpA (cpA w (27 + 7 * k1 + 1) (27 + 7 * k + 1) 0 0 6) (27 + 7 * k1 + 2) (27 + 7 * k + 2) 0 0 6) (27 + 7 * k1 + 3) (27 + 7 * k + 3) 0 0 6) (27 + 7 * k1 + 4) (27 + 7 * k + 4) 0 0 6) (27 + 7 * k1 + 5) (27 + 7 * k + 5) 0 0 6) (27 + 7 * k1 + 6) (27 + 7 * k + 6) 0 0 3) (27 + 7 * k) 6 y1) (27 + 7 * k) 7 y2)))
set_option maxHeartbeats 4000000 in
set_option maxRecDepth 100000 in
theorem mt_X6_copyFrom (l : Launch) {E : En} (hI : Inj E) (hF : ∀ o, (o < 15 ∨ 27 ≤ o ∧ o < 157) → o ∈ eL E) (k : Nat) (hk : k < 2) (k1 : Nat) (hk1 : k1 < 2) (w : Wd) {Post : Wd → Prop} (h : wp_X6_copyFrom k k1 w Post) : MV l E yX6_copyFrom cX6_copyFrom 2 none 1 18 [.ref (eA E ((27 + 7 * k))), .ref (eA E ((27 + 7 * k1)))] w Post := by
  refine MG.intro hI (by decide +kernel) (Nat.le_of_ble_eq_true rfl) ?_
  intro p e s m args below meth c Q C hr hlk hQ hw ls hl
  have hx := C.1
  have hb := C.2.1
  have hl : lv_has ls 2 [(0, .ref (eA E ((27 + 7 * k)))), (1, .ref (eA E ((27 + 7 * k1))))] := hl
  unfold wp_X6_copyFrom at h
  refine lv_aload_n hx hb dX6_copyFrom_0 rfl (lv_at hl 1 rfl) ?_
  refine g6_0 C hw k1 hk1 (hF _ (by have := hk1; omega)) K_f_X6_9 dX6_copyFrom_1 ?_
  refine lv_iconst (v := 0) hx hb dX6_copyFrom_4 (by decide) ?_
  refine lv_aload_n hx hb dX6_copyFrom_5 rfl (lv_at hl 0 rfl) ?_
  refine g6_0 C hw k hk (hF _ (by have := hk; omega)) K_f_X6_9 dX6_copyFrom_6 ?_
  refine lv_iconst (v := 0) hx hb dX6_copyFrom_9 (by decide) ?_
  refine lv_bipush (v := 6) hx hb dX6_copyFrom_10 (by decide) ?_
  refine r_copy C hw hl.1 (27 + 7 * k1 + 1) (27 + 7 * k + 1) 6 6 K_m_X6_43 (hF _ (by have := hk1; omega)) (hF _ (by have := hk; omega)) (ce_sea 1 hk1 (by decide) (by decide)) (fun _ => ce_sea 1 hk (by decide) (by decide)) (by decide) (by decide) (by decide) (by decide) (by decide) ⟨Nat.le_of_ble_eq_true rfl, Nat.le_of_ble_eq_true rfl⟩ dX6_copyFrom_12 (fun H locs hw => ?_)
  refine lv_aload_n hx hb dX6_copyFrom_15 rfl (lv_at hl 1 rfl) ?_
  refine g6_1 C hw k1 hk1 (hF _ (by have := hk1; omega)) K_f_X6_15 dX6_copyFrom_16 ?_
  refine lv_iconst (v := 0) hx hb dX6_copyFrom_19 (by decide) ?_
  refine lv_aload_n hx hb dX6_copyFrom_20 rfl (lv_at hl 0 rfl) ?_
  refine g6_1 C hw k hk (hF _ (by have := hk; omega)) K_f_X6_15 dX6_copyFrom_21 ?_
  refine lv_iconst (v := 0) hx hb dX6_copyFrom_24 (by decide) ?_
  refine lv_bipush (v := 6) hx hb dX6_copyFrom_25 (by decide) ?_
  refine r_copy C hw hl.1 (27 + 7 * k1 + 2) (27 + 7 * k + 2) 6 6 K_m_X6_43 (hF _ (by have := hk1; omega)) (hF _ (by have := hk; omega)) (ce_sea 2 hk1 (by decide) (by decide)) (fun _ => ce_sea 2 hk (by decide) (by decide)) (by decide) (by decide) (by decide) (by decide) (by decide) ⟨Nat.le_of_ble_eq_true rfl, Nat.le_of_ble_eq_true rfl⟩ dX6_copyFrom_27 (fun H locs hw => ?_)
  refine lv_aload_n hx hb dX6_copyFrom_30 rfl (lv_at hl 1 rfl) ?_
  refine g6_2 C hw k1 hk1 (hF _ (by have := hk1; omega)) K_f_X6_18 dX6_copyFrom_31 ?_
  refine lv_iconst (v := 0) hx hb dX6_copyFrom_34 (by decide) ?_
  refine lv_aload_n hx hb dX6_copyFrom_35 rfl (lv_at hl 0 rfl) ?_
  refine g6_2 C hw k hk (hF _ (by have := hk; omega)) K_f_X6_18 dX6_copyFrom_36 ?_
  refine lv_iconst (v := 0) hx hb dX6_copyFrom_39 (by decide) ?_
  refine lv_bipush (v := 6) hx hb dX6_copyFrom_40 (by decide) ?_
  refine r_copy C hw hl.1 (27 + 7 * k1 + 3) (27 + 7 * k + 3) 6 6 K_m_X6_43 (hF _ (by have := hk1; omega)) (hF _ (by have := hk; omega)) (ce_sea 3 hk1 (by decide) (by decide)) (fun _ => ce_sea 3 hk (by decide) (by decide)) (by decide) (by decide) (by decide) (by decide) (by decide) ⟨Nat.le_of_ble_eq_true rfl, Nat.le_of_ble_eq_true rfl⟩ dX6_copyFrom_42 (fun H locs hw => ?_)
  refine lv_aload_n hx hb dX6_copyFrom_45 rfl (lv_at hl 1 rfl) ?_
  refine g6_3 C hw k1 hk1 (hF _ (by have := hk1; omega)) K_f_X6_21 dX6_copyFrom_46 ?_
  refine lv_iconst (v := 0) hx hb dX6_copyFrom_49 (by decide) ?_
  refine lv_aload_n hx hb dX6_copyFrom_50 rfl (lv_at hl 0 rfl) ?_
  refine g6_3 C hw k hk (hF _ (by have := hk; omega)) K_f_X6_21 dX6_copyFrom_51 ?_
  refine lv_iconst (v := 0) hx hb dX6_copyFrom_54 (by decide) ?_
  refine lv_bipush (v := 6) hx hb dX6_copyFrom_55 (by decide) ?_
  refine r_copy C hw hl.1 (27 + 7 * k1 + 4) (27 + 7 * k + 4) 6 6 K_m_X6_43 (hF _ (by have := hk1; omega)) (hF _ (by have := hk; omega)) (ce_sea 4 hk1 (by decide) (by decide)) (fun _ => ce_sea 4 hk (by decide) (by decide)) (by decide) (by decide) (by decide) (by decide) (by decide) ⟨Nat.le_of_ble_eq_true rfl, Nat.le_of_ble_eq_true rfl⟩ dX6_copyFrom_57 (fun H locs hw => ?_)
  refine lv_aload_n hx hb dX6_copyFrom_60 rfl (lv_at hl 1 rfl) ?_
  refine g6_4 C hw k1 hk1 (hF _ (by have := hk1; omega)) K_f_X6_24 dX6_copyFrom_61 ?_
  refine lv_iconst (v := 0) hx hb dX6_copyFrom_64 (by decide) ?_
  refine lv_aload_n hx hb dX6_copyFrom_65 rfl (lv_at hl 0 rfl) ?_
  refine g6_4 C hw k hk (hF _ (by have := hk; omega)) K_f_X6_24 dX6_copyFrom_66 ?_
  refine lv_iconst (v := 0) hx hb dX6_copyFrom_69 (by decide) ?_
  refine lv_bipush (v := 6) hx hb dX6_copyFrom_70 (by decide) ?_
  refine r_copy C hw hl.1 (27 + 7 * k1 + 5) (27 + 7 * k + 5) 6 6 K_m_X6_43 (hF _ (by have := hk1; omega)) (hF _ (by have := hk; omega)) (ce_sea 5 hk1 (by decide) (by decide)) (fun _ => ce_sea 5 hk (by decide) (by decide)) (by decide) (by decide) (by decide) (by decide) (by decide) ⟨Nat.le_of_ble_eq_true rfl, Nat.le_of_ble_eq_true rfl⟩ dX6_copyFrom_72 (fun H locs hw => ?_)
  refine lv_aload_n hx hb dX6_copyFrom_75 rfl (lv_at hl 1 rfl) ?_
  refine g6_5 C hw k1 hk1 (hF _ (by have := hk1; omega)) K_f_X6_27 dX6_copyFrom_76 ?_
  refine lv_iconst (v := 0) hx hb dX6_copyFrom_79 (by decide) ?_
  refine lv_aload_n hx hb dX6_copyFrom_80 rfl (lv_at hl 0 rfl) ?_
  refine g6_5 C hw k hk (hF _ (by have := hk; omega)) K_f_X6_27 dX6_copyFrom_81 ?_
  refine lv_iconst (v := 0) hx hb dX6_copyFrom_84 (by decide) ?_
  refine lv_iconst (v := 3) hx hb dX6_copyFrom_85 (by decide) ?_
  refine r_copy C hw hl.1 (27 + 7 * k1 + 6) (27 + 7 * k + 6) 3 3 K_m_X6_43 (hF _ (by have := hk1; omega)) (hF _ (by have := hk; omega)) (ce_sea 6 hk1 (by decide) (by decide)) (fun _ => ce_sea 6 hk (by decide) (by decide)) (by decide) (by decide) (by decide) (by decide) (by decide) ⟨Nat.le_of_ble_eq_true rfl, Nat.le_of_ble_eq_true rfl⟩ dX6_copyFrom_86 (fun H locs hw => ?_)
  refine lv_aload_n hx hb dX6_copyFrom_89 rfl (lv_at hl 0 rfl) ?_
  refine lv_aload_n hx hb dX6_copyFrom_90 rfl (lv_at hl 1 rfl) ?_
  refine g6_6 C hw k1 hk1 (hF _ (by have := hk1; omega)) K_f_X6_36 dX6_copyFrom_91 ?_
  refine lv_topi (fun y1 ey1 => ?_)
  have h := h y1 ey1
  refine p6_6 C hw k hk (hF _ (by have := hk; omega)) K_f_X6_36 dX6_copyFrom_94 (fun H locs hw => ?_)
  refine lv_aload_n hx hb dX6_copyFrom_97 rfl (lv_at hl 0 rfl) ?_
  refine lv_aload_n hx hb dX6_copyFrom_98 rfl (lv_at hl 1 rfl) ?_
  refine g6_7 C hw k1 hk1 (hF _ (by have := hk1; omega)) K_f_X6_40 dX6_copyFrom_99 ?_
  refine lv_topi (fun y2 ey2 => ?_)
  have h := h y2 ey2
  refine p6_7 C hw k hk (hF _ (by have := hk; omega)) K_f_X6_40 dX6_copyFrom_102 (fun H locs hw => ?_)
  rw [hQ]
  exact ret_v C hr hlk hw h dX6_copyFrom_105
theorem hy_X7_begin : yX7_begin.cls ≠ "java/lang/invoke/MethodHandle" ∧ yX7_begin.cls ≠ "java/lang/invoke/VarHandle" ∧ (parseMethodDescriptor yX7_begin.desc).map (fun d => d.parameters.length) = some 1 := by decide +kernel
def wp_X7_begin (k : Nat) (k1 : Nat) (w : Wd) (Post : Wd → Prop) : Prop :=
  ∀ J48 : Int32 → Wd → Prop, (∀ (x2 : Int32) (w : Wd), ((2 ≤ x2 → (wp_J7_fill_53178 (53 + 8 * k + 6) 6 w 0 (fun w3 => ∀ y1 : Int32, y1 = gI w3 (27 + 7 * k1) 7 → (wp_X7_ban k (sI (sI w3 (53 + 8 * k) 7 y1) (53 + 8 * k) 8 0) ((-1)) ((-1)) ((-1)) (fun w4 => Post w4))))) ∧ (¬ 2 ≤ x2 → ((¬ (x2 * 3) < 0 ∧ (x2 * 3).toNatClampNeg + 3 ≤ 6) ∧ (∀ y2 : Int32, y2 = x2 + 1 → (J48 y2 (cpA w (27 + 7 * k1 + 6) (53 + 8 * k + 5) 0 ((x2 * 3).toNatClampNeg) 3)))))) → J48 x2 w) →
  wp_J7_fill_53178 (53 + 8 * k + 3) 6 (cpA (cpA w (27 + 7 * k1 + 4) (53 + 8 * k + 1) 0 0 6) (27 + 7 * k1 + 5) (53 + 8 * k + 2) 0 0 6) ((-1)) (fun w1 => wp_J7_fill_53178 (53 + 8 * k + 4) 6 w1 0 (fun w2 => J48 0 w2))
set_option maxHeartbeats 4000000 in
set_option maxRecDepth 100000 in
theorem mt_X7_begin (l : Launch) {E : En} (hI : Inj E) (hF : ∀ o, (o < 15 ∨ 27 ≤ o ∧ o < 157) → o ∈ eL E) (k : Nat) (hk : k < 13) (k1 : Nat) (hk1 : k1 < 2) (w : Wd) {Post : Wd → Prop} (h : wp_X7_begin k k1 w Post) : MV l E yX7_begin cX7_begin 3 none 1 23 [.ref (eA E ((53 + 8 * k))), .ref (eA E ((27 + 7 * k1)))] w Post := by
  refine MG.intro hI (by decide +kernel) (Nat.le_of_ble_eq_true rfl) ?_
  intro p e s m args below meth c Q C hr hlk hQ hw ls hl
  have hx := C.1
  have hb := C.2.1
  have hl : lv_has ls 3 [(0, .ref (eA E ((53 + 8 * k)))), (1, .ref (eA E ((27 + 7 * k1))))] := hl
  unfold wp_X7_begin at h
  have h := h (fun x2 w => Jp E p l e (Rm 1 23) s m args below meth c Q 3 48 [(0, .ref (eA E ((53 + 8 * k)))), (1, .ref (eA E ((27 + 7 * k1)))), (2, .int x2)] w)
  have h := h ?_
  rotate_left
  · intro x2 w h H locs hw ls hl
    refine lv_iload_n hx hb dX7_begin_48 rfl (lv_at hl 2 rfl) ?_
    refine lv_iconst (v := 2) hx hb dX7_begin_49 (by decide) ?_
    refine lv_icmp_ge (tgt := 75) hx hb dX7_begin_50 (by decide) (fun c1 => ?_) (fun c1 => ?_)
    · have h := h.1 c1
      refine lv_aload_n hx hb dX7_begin_75 rfl (lv_at hl 0 rfl) ?_
      refine g7_5 C hw k hk (hF _ (by have := hk; omega)) K_f_X7_27 dX7_begin_76 ?_
      refine lv_iconst (v := 0) hx hb dX7_begin_79 (by decide) ?_
      refine done_v hw (my_runS (As := [.ref (eA E ((53 + 8 * k + 6))), .int 0]) (rest := []) C hw (mt_J7_fill_53178 l C.2.2.2.2.2.2.2 (53 + 8 * k + 6) 6 (hF _ (by have := hk; omega)) (fun _ => ce_sta 6 hk (by decide) (by decide)) _ _ h) K_m_X7_33 K_s_J7_fill_53178 K_n_J7 K_c_J7_fill_53178 hy_J7_fill_53178 ⟨Nat.le_of_ble_eq_true rfl, Nat.le_of_ble_eq_true rfl⟩ hl.1 rfl (Nat.le_of_ble_eq_true rfl) dX7_begin_80 ⟨Nat.zero_le _, Nat.zero_le _⟩) (fun w3 H locs h hw => ?_)
      refine lv_aload_n hx hb dX7_begin_83 rfl (lv_at hl 0 rfl) ?_
      refine lv_aload_n hx hb dX7_begin_84 rfl (lv_at hl 1 rfl) ?_
      refine g6_7 C hw k1 hk1 (hF _ (by have := hk1; omega)) K_f_X7_54 dX7_begin_85 ?_
      refine lv_topi (fun y1 ey1 => ?_)
      have h := h y1 ey1
      refine p7_7 C hw k hk (hF _ (by have := hk; omega)) K_f_X7_58 dX7_begin_88 (fun H locs hw => ?_)
      refine lv_aload_n hx hb dX7_begin_91 rfl (lv_at hl 0 rfl) ?_
      refine lv_iconst (v := 0) hx hb dX7_begin_92 (by decide) ?_
      refine p7_8 C hw k hk (hF _ (by have := hk; omega)) K_f_X7_61 dX7_begin_93 (fun H locs hw => ?_)
      refine lv_aload_n hx hb dX7_begin_96 rfl (lv_at hl 0 rfl) ?_
      refine lv_iconst (v := (-1)) hx hb dX7_begin_97 (by decide) ?_
      refine lv_iconst (v := (-1)) hx hb dX7_begin_98 (by decide) ?_
      refine lv_iconst (v := (-1)) hx hb dX7_begin_99 (by decide) ?_
      refine done_v hw (my_runV (As := [.int ((-1)), .int ((-1)), .int ((-1))]) (rest := []) C hw (53 + 8 * k) 7 (hF _ (by have := hk; omega)) (ce_st hk) rfl (mt_X7_ban l C.2.2.2.2.2.2.2 k hk (fun o a => hF o (by have := hk; omega)) _ _ _ _ h) K_m_X7_39 K_i_X7_ban K_v_X7_ban K_n_X7 K_c_X7_ban hy_X7_ban ⟨Nat.le_of_ble_eq_true rfl, Nat.le_of_ble_eq_true rfl⟩ hl.1 rfl (Nat.le_of_ble_eq_true rfl) dX7_begin_100 ⟨Nat.zero_le _, Nat.zero_le _⟩) (fun w4 H locs h hw => ?_)
      rw [hQ]
      exact ret_v C hr hlk hw h dX7_begin_103
    · have h := h.2 c1
      refine lv_aload_n hx hb dX7_begin_53 rfl (lv_at hl 1 rfl) ?_
      refine g6_5 C hw k1 hk1 (hF _ (by have := hk1; omega)) K_f_X7_53 dX7_begin_54 ?_
      refine lv_iconst (v := 0) hx hb dX7_begin_57 (by decide) ?_
      refine lv_aload_n hx hb dX7_begin_58 rfl (lv_at hl 0 rfl) ?_
      refine g7_4 C hw k hk (hF _ (by have := hk; omega)) K_f_X7_24 dX7_begin_59 ?_
      refine lv_iload_n hx hb dX7_begin_62 rfl (lv_at hl 2 rfl) ?_
      refine lv_iconst (v := 3) hx hb dX7_begin_63 (by decide) ?_
      refine lv_imul hx hb dX7_begin_64 ?_
      refine lv_iconst (v := 3) hx hb dX7_begin_65 (by decide) ?_
      obtain ⟨hz1, h⟩ := h
      refine r_copy C hw hl.1 (27 + 7 * k1 + 6) (53 + 8 * k + 5) 3 6 K_m_X7_46 (hF _ (by have := hk1; omega)) (hF _ (by have := hk; omega)) (ce_sea 6 hk1 (by decide) (by decide)) (fun _ => ce_sta 5 hk (by decide) (by decide)) (by decide) hz1.1 (by decide) (by decide) hz1.2 ⟨Nat.le_of_ble_eq_true rfl, Nat.le_of_ble_eq_true rfl⟩ dX7_begin_66 (fun H locs hw => ?_)
      obtain ⟨y2, ey2⟩ : ∃ y : Int32, y = x2 + 1 := ⟨_, rfl⟩
      have h := h y2 ey2
      refine lv_iinc (v := y2) (lv' := [(2, .int y2), (0, .ref (eA E ((53 + 8 * k)))), (1, .ref (eA E ((27 + 7 * k1))))]) hx hb dX7_begin_69 hl (k := 2) rfl (by rw [ey2]; first | rfl | decide) (by decide) rfl (fun ls hl => ?_)
      refine lv_goto (tgt := 48) hx hb dX7_begin_72 (by decide) ?_
      exact h _ _ hw _ (lv_sub hl [1, 2, 0] rfl)
  refine lv_aload_n hx hb dX7_begin_0 rfl (lv_at hl 1 rfl) ?_
  refine g6_3 C hw k1 hk1 (hF _ (by have := hk1; omega)) K_f_X7_43 dX7_begin_1 ?_
  refine lv_iconst (v := 0) hx hb dX7_begin_4 (by decide) ?_
  refine lv_aload_n hx hb dX7_begin_5 rfl (lv_at hl 0 rfl) ?_
  refine g7_0 C hw k hk (hF _ (by have := hk; omega)) K_f_X7_9 dX7_begin_6 ?_
  refine lv_iconst (v := 0) hx hb dX7_begin_9 (by decide) ?_
  refine lv_bipush (v := 6) hx hb dX7_begin_10 (by decide) ?_
  refine r_copy C hw hl.1 (27 + 7 * k1 + 4) (53 + 8 * k + 1) 6 6 K_m_X7_46 (hF _ (by have := hk1; omega)) (hF _ (by have := hk; omega)) (ce_sea 4 hk1 (by decide) (by decide)) (fun _ => ce_sta 1 hk (by decide) (by decide)) (by decide) (by decide) (by decide) (by decide) (by decide) ⟨Nat.le_of_ble_eq_true rfl, Nat.le_of_ble_eq_true rfl⟩ dX7_begin_12 (fun H locs hw => ?_)
  refine lv_aload_n hx hb dX7_begin_15 rfl (lv_at hl 1 rfl) ?_
  refine g6_4 C hw k1 hk1 (hF _ (by have := hk1; omega)) K_f_X7_52 dX7_begin_16 ?_
  refine lv_iconst (v := 0) hx hb dX7_begin_19 (by decide) ?_
  refine lv_aload_n hx hb dX7_begin_20 rfl (lv_at hl 0 rfl) ?_
  refine g7_1 C hw k hk (hF _ (by have := hk; omega)) K_f_X7_15 dX7_begin_21 ?_
  refine lv_iconst (v := 0) hx hb dX7_begin_24 (by decide) ?_
  refine lv_bipush (v := 6) hx hb dX7_begin_25 (by decide) ?_
  refine r_copy C hw hl.1 (27 + 7 * k1 + 5) (53 + 8 * k + 2) 6 6 K_m_X7_46 (hF _ (by have := hk1; omega)) (hF _ (by have := hk; omega)) (ce_sea 5 hk1 (by decide) (by decide)) (fun _ => ce_sta 2 hk (by decide) (by decide)) (by decide) (by decide) (by decide) (by decide) (by decide) ⟨Nat.le_of_ble_eq_true rfl, Nat.le_of_ble_eq_true rfl⟩ dX7_begin_27 (fun H locs hw => ?_)
  refine lv_aload_n hx hb dX7_begin_30 rfl (lv_at hl 0 rfl) ?_
  refine g7_2 C hw k hk (hF _ (by have := hk; omega)) K_f_X7_18 dX7_begin_31 ?_
  refine lv_iconst (v := (-1)) hx hb dX7_begin_34 (by decide) ?_
  refine done_v hw (my_runS (As := [.ref (eA E ((53 + 8 * k + 3))), .int ((-1))]) (rest := []) C hw (mt_J7_fill_53178 l C.2.2.2.2.2.2.2 (53 + 8 * k + 3) 6 (hF _ (by have := hk; omega)) (fun _ => ce_sta 3 hk (by decide) (by decide)) _ _ h) K_m_X7_33 K_s_J7_fill_53178 K_n_J7 K_c_J7_fill_53178 hy_J7_fill_53178 ⟨Nat.le_of_ble_eq_true rfl, Nat.le_of_ble_eq_true rfl⟩ hl.1 rfl (Nat.le_of_ble_eq_true rfl) dX7_begin_35 ⟨Nat.zero_le _, Nat.zero_le _⟩) (fun w1 H locs h hw => ?_)
  refine lv_aload_n hx hb dX7_begin_38 rfl (lv_at hl 0 rfl) ?_
  refine g7_3 C hw k hk (hF _ (by have := hk; omega)) K_f_X7_21 dX7_begin_39 ?_
  refine lv_iconst (v := 0) hx hb dX7_begin_42 (by decide) ?_
  refine done_v hw (my_runS (As := [.ref (eA E ((53 + 8 * k + 4))), .int 0]) (rest := []) C hw (mt_J7_fill_53178 l C.2.2.2.2.2.2.2 (53 + 8 * k + 4) 6 (hF _ (by have := hk; omega)) (fun _ => ce_sta 4 hk (by decide) (by decide)) _ _ h) K_m_X7_33 K_s_J7_fill_53178 K_n_J7 K_c_J7_fill_53178 hy_J7_fill_53178 ⟨Nat.le_of_ble_eq_true rfl, Nat.le_of_ble_eq_true rfl⟩ hl.1 rfl (Nat.le_of_ble_eq_true rfl) dX7_begin_43 ⟨Nat.zero_le _, Nat.zero_le _⟩) (fun w2 H locs h hw => ?_)
  refine lv_iconst (v := 0) hx hb dX7_begin_46 (by decide) ?_
  refine lv_istore_n (lv' := [(2, .int 0), (0, .ref (eA E ((53 + 8 * k)))), (1, .ref (eA E ((27 + 7 * k1))))]) hx hb dX7_begin_47 rfl hl (by decide) rfl (fun ls hl => ?_)
  exact h _ _ hw _ (lv_sub hl [1, 2, 0] rfl)
theorem hy_X0_begin : yX0_begin.cls ≠ "java/lang/invoke/MethodHandle" ∧ yX0_begin.cls ≠ "java/lang/invoke/VarHandle" ∧ (parseMethodDescriptor yX0_begin.desc).map (fun d => d.parameters.length) = some 1 := by decide +kernel
def wp_X0_begin (k1 : Nat) (w : Wd) (Post : Wd → Prop) : Prop :=
  wp_X6_copyFrom 1 k1 w (fun w1 => wp_X7_begin 0 1 w1 (fun w2 => Post w2))
set_option maxHeartbeats 4000000 in
set_option maxRecDepth 100000 in
theorem mt_X0_begin (l : Launch) {E : En} (hI : Inj E) (hF : ∀ o, (o < 15 ∨ 27 ≤ o ∧ o < 157) → o ∈ eL E) (k1 : Nat) (hk1 : k1 < 2) (w : Wd) {Post : Wd → Prop} (h : wp_X0_begin k1 w Post) : MV l E yX0_begin cX0_begin 2 none 2 45 [.ref (eA E 3), .ref (eA E ((27 + 7 * k1)))] w Post := by
  refine MG.intro hI (by decide +kernel) (Nat.le_of_ble_eq_true rfl) ?_
  intro p e s m args below meth c Q C hr hlk hQ hw ls hl
  have hx := C.1
  have hb := C.2.1
  have hl : lv_has ls 2 [(0, .ref (eA E 3)), (1, .ref (eA E ((27 + 7 * k1))))] := hl
  unfold wp_X0_begin at h
  refine lv_aload_n hx hb dX0_begin_0 rfl (lv_at hl 0 rfl) ?_
  refine g0_0 C hw (hF 3 (by decide)) K_f_X0_12 dX0_begin_1 ?_
  refine lv_aload_n hx hb dX0_begin_4 rfl (lv_at hl 1 rfl) ?_
  refine done_v hw (my_runV (As := [.ref (eA E ((27 + 7 * k1)))]) (rest := []) C hw (27 + 7 * 1) 6 (hF _ (by have := (show 1 < 2 by decide); omega)) (ce_se (show 1 < 2 by decide)) rfl (mt_X6_copyFrom l C.2.2.2.2.2.2.2 hF 1 (show 1 < 2 by decide) k1 hk1 _ h) K_m_X0_50 K_i_X6_copyFrom K_v_X6_copyFrom K_n_X6 K_c_X6_copyFrom hy_X6_copyFrom ⟨Nat.le_of_ble_eq_true rfl, Nat.le_of_ble_eq_true rfl⟩ hl.1 rfl (Nat.le_of_ble_eq_true rfl) dX0_begin_5 ⟨Nat.zero_le _, Nat.zero_le _⟩) (fun w1 H locs h hw => ?_)
  refine lv_aload_n hx hb dX0_begin_8 rfl (lv_at hl 0 rfl) ?_
  refine g0_1 C hw (hF 3 (by decide)) K_f_X0_21 dX0_begin_9 ?_
  refine lv_aload_n hx hb dX0_begin_12 rfl (lv_at hl 0 rfl) ?_
  refine g0_0 C hw (hF 3 (by decide)) K_f_X0_12 dX0_begin_13 ?_
  refine done_v hw (my_runV (As := [.ref (eA E ((27 + 7 * 1)))]) (rest := []) C hw (53 + 8 * 0) 7 (hF _ (by have := (show 0 < 13 by decide); omega)) (ce_st (show 0 < 13 by decide)) rfl (mt_X7_begin l C.2.2.2.2.2.2.2 hF 0 (show 0 < 13 by decide) 1 (show 1 < 2 by decide) _ h) K_m_X0_54 K_i_X7_begin K_v_X7_begin K_n_X7 K_c_X7_begin hy_X7_begin ⟨Nat.le_of_ble_eq_true rfl, Nat.le_of_ble_eq_true rfl⟩ hl.1 rfl (Nat.le_of_ble_eq_true rfl) dX0_begin_16 ⟨Nat.zero_le _, Nat.zero_le _⟩) (fun w2 H locs h hw => ?_)
  rw [hQ]
  exact ret_v C hr hlk hw h dX0_begin_19
theorem hy_X0_countSteps : yX0_countSteps.cls ≠ "java/lang/invoke/MethodHandle" ∧ yX0_countSteps.cls ≠ "java/lang/invoke/VarHandle" ∧ (parseMethodDescriptor yX0_countSteps.desc).map (fun d => d.parameters.length) = some 1 := by decide +kernel
def wp_X0_countSteps (w : Wd) (p1 : Int32) (Post : Int32 → Wd → Prop) : Prop :=
  ∀ J4 : Int32 → Int32 → Wd → Prop, (∀ (x2 : Int32) (x3 : Int32) (w : Wd), ((12 < x3 → (Post x2 w)) ∧ (¬ 12 < x3 → (vp_in p1 6 ∧ (wp_X8_hasBit w (gA w (27 + 7 * 1 + 3) p1.toNatClampNeg) x3 (fun r1 w1 => (r1 = 0 → (∀ y1 : Int32, y1 = x3 + 1 → (J4 x2 y1 w1))) ∧ (¬ r1 = 0 → (vp_in p1 6 ∧ (vp_in p1 6 ∧ (wp_X4_targetsOf w1 (gA w1 (53 + 8 * 0 + 1) p1.toNatClampNeg) (gA w1 (53 + 8 * 0 + 2) p1.toNatClampNeg) x3 (fun r2 w2 => wp_J6_bitCount_0f7a4 w2 r2 (fun r3 w3 => ∀ y2 : Int32, y2 = x2 + r3 → (∀ y3 : Int32, y3 = x3 + 1 → (J4 y2 y3 w3))))))))))))) → J4 x2 x3 w) →
  J4 0 1 w
set_option maxHeartbeats 4000000 in
set_option maxRecDepth 100000 in
theorem mt_X0_countSteps (l : Launch) {E : En} (hI : Inj E) (hF : ∀ o, (o < 15 ∨ 27 ≤ o ∧ o < 157) → o ∈ eL E) (w : Wd) (p1 : Int32) {Post : Int32 → Wd → Prop} (h : wp_X0_countSteps w p1 Post) : MI l E yX0_countSteps cX0_countSteps 4 (some .int) 1 22 [.ref (eA E 3), .int p1] w Post := by
  refine MG.intro hI (by decide +kernel) (Nat.le_of_ble_eq_true rfl) ?_
  intro p e s m args below meth c Q C hr hlk hQ hw ls hl
  have hx := C.1
  have hb := C.2.1
  have hl : lv_has ls 4 [(0, .ref (eA E 3)), (1, .int p1)] := hl
  unfold wp_X0_countSteps at h
  have h := h (fun x2 x3 w => Jp E p l e (Rm 1 22) s m args below meth c Q 4 4 [(0, .ref (eA E 3)), (1, .int p1), (2, .int x2), (3, .int x3)] w)
  have h := h ?_
  rotate_left
  · intro x2 x3 w h H locs hw ls hl
    refine lv_iload_n hx hb dX0_countSteps_4 rfl (lv_at hl 3 rfl) ?_
    refine lv_bipush (v := 12) hx hb dX0_countSteps_5 (by decide) ?_
    refine lv_icmp_gt (tgt := 60) hx hb dX0_countSteps_7 (by decide) (fun c1 => ?_) (fun c1 => ?_)
    · have h := h.1 c1
      refine lv_iload_n hx hb dX0_countSteps_60 rfl (lv_at hl 2 rfl) ?_
      rw [hQ]
      exact ret_i C hr hlk hw h dX0_countSteps_61
    · have h := h.2 c1
      refine lv_aload_n hx hb dX0_countSteps_10 rfl (lv_at hl 0 rfl) ?_
      refine g0_0 C hw (hF 3 (by decide)) K_f_X0_12 dX0_countSteps_11 ?_
      refine g6_2 C hw 1 (show 1 < 2 by decide) (hF _ (by have := (show 1 < 2 by decide); omega)) K_f_X0_65 dX0_countSteps_14 ?_
      refine lv_iload_n hx hb dX0_countSteps_17 rfl (lv_at hl 1 rfl) ?_
      obtain ⟨hi1, h⟩ := h
      refine r_iald C hw (27 + 7 * 1 + 3) 6 (hF _ (by have := (show 1 < 2 by decide); omega)) (ce_sea 3 (show 1 < 2 by decide) (by decide) (by decide)) hi1 dX0_countSteps_18 ?_
      refine lv_iload_n hx hb dX0_countSteps_19 rfl (lv_at hl 3 rfl) ?_
      refine done_i hw (my_runSN (As := [.int (gA w (27 + 7 * 1 + 3) p1.toNatClampNeg), .int x3]) (rest := []) C hw (mt_X8_hasBit l C.2.2.2.2.2.2.2 _ _ _ h) nw_X0_68 K_s_X8_hasBit K_n_X8 K_c_X8_hasBit hy_X8_hasBit ⟨Nat.le_of_ble_eq_true rfl, Nat.le_of_ble_eq_true rfl⟩ hl.1 rfl (Nat.le_of_ble_eq_true rfl) dX0_countSteps_20 ⟨Nat.zero_le _, Nat.zero_le _⟩) (fun r1 w1 H locs h hw => ?_)
      refine lv_if_eq (tgt := 54) hx hb dX0_countSteps_23 (by decide) (fun c2 => ?_) (fun c2 => ?_)
      · have h := h.1 c2
        obtain ⟨y1, ey1⟩ : ∃ y : Int32, y = x3 + 1 := ⟨_, rfl⟩
        have h := h y1 ey1
        refine lv_iinc (v := y1) (lv' := [(3, .int y1), (0, .ref (eA E 3)), (1, .int p1), (2, .int x2)]) hx hb dX0_countSteps_54 hl (k := 3) rfl (by rw [ey1]; first | rfl | decide) (by decide) rfl (fun ls hl => ?_)
        refine lv_goto (tgt := 4) hx hb dX0_countSteps_57 (by decide) ?_
        exact h _ _ hw _ (lv_sub hl [1, 2, 3, 0] rfl)
      · have h := h.2 c2
        refine lv_iload_n hx hb dX0_countSteps_26 rfl (lv_at hl 2 rfl) ?_
        refine lv_aload_n hx hb dX0_countSteps_27 rfl (lv_at hl 0 rfl) ?_
        refine g0_1 C hw (hF 3 (by decide)) K_f_X0_21 dX0_countSteps_28 ?_
        refine g7_0 C hw 0 (show 0 < 13 by decide) (hF _ (by have := (show 0 < 13 by decide); omega)) K_f_X0_72 dX0_countSteps_31 ?_
        refine lv_iload_n hx hb dX0_countSteps_34 rfl (lv_at hl 1 rfl) ?_
        obtain ⟨hi2, h⟩ := h
        refine r_iald C hw (53 + 8 * 0 + 1) 6 (hF _ (by have := (show 0 < 13 by decide); omega)) (ce_sta 1 (show 0 < 13 by decide) (by decide) (by decide)) hi2 dX0_countSteps_35 ?_
        refine lv_aload_n hx hb dX0_countSteps_36 rfl (lv_at hl 0 rfl) ?_
        refine g0_1 C hw (hF 3 (by decide)) K_f_X0_21 dX0_countSteps_37 ?_
        refine g7_1 C hw 0 (show 0 < 13 by decide) (hF _ (by have := (show 0 < 13 by decide); omega)) K_f_X0_75 dX0_countSteps_40 ?_
        refine lv_iload_n hx hb dX0_countSteps_43 rfl (lv_at hl 1 rfl) ?_
        obtain ⟨hi3, h⟩ := h
        refine r_iald C hw (53 + 8 * 0 + 2) 6 (hF _ (by have := (show 0 < 13 by decide); omega)) (ce_sta 2 (show 0 < 13 by decide) (by decide) (by decide)) hi3 dX0_countSteps_44 ?_
        refine lv_iload_n hx hb dX0_countSteps_45 rfl (lv_at hl 3 rfl) ?_
        refine done_i hw (my_runS (As := [.int (gA w1 (53 + 8 * 0 + 1) p1.toNatClampNeg), .int (gA w1 (53 + 8 * 0 + 2) p1.toNatClampNeg), .int x3]) (rest := [.int x2]) C hw (mt_X4_targetsOf l C.2.2.2.2.2.2.2 _ _ _ _ h) K_m_X0_78 K_s_X4_targetsOf K_n_X4 K_c_X4_targetsOf hy_X4_targetsOf ⟨Nat.le_of_ble_eq_true rfl, Nat.le_of_ble_eq_true rfl⟩ hl.1 rfl (Nat.le_of_ble_eq_true rfl) dX0_countSteps_46 ⟨Nat.zero_le _, Nat.zero_le _⟩) (fun r2 w2 H locs h hw => ?_)
        refine done_i hw (my_runS (As := [.int r2]) (rest := [.int x2]) C hw (mt_J6_bitCount_0f7a4 l C.2.2.2.2.2.2.2 _ _ h) K_m_X0_82 K_s_J6_bitCount_0f7a4 K_n_J6 K_c_J6_bitCount_0f7a4 hy_J6_bitCount_0f7a4 ⟨Nat.le_of_ble_eq_true rfl, Nat.le_of_ble_eq_true rfl⟩ hl.1 rfl (Nat.le_of_ble_eq_true rfl) dX0_countSteps_49 ⟨Nat.zero_le _, Nat.zero_le _⟩) (fun r3 w3 H locs h hw => ?_)
        refine lv_iadd hx hb dX0_countSteps_52 ?_
        refine lv_topi (fun y2 ey2 => ?_)
        have h := h y2 ey2
        refine lv_istore_n (lv' := [(2, .int y2), (0, .ref (eA E 3)), (1, .int p1), (3, .int x3)]) hx hb dX0_countSteps_53 rfl hl (by decide) rfl (fun ls hl => ?_)
        obtain ⟨y3, ey3⟩ : ∃ y : Int32, y = x3 + 1 := ⟨_, rfl⟩
        have h := h y3 ey3
        refine lv_iinc (v := y3) (lv' := [(3, .int y3), (2, .int y2), (0, .ref (eA E 3)), (1, .int p1)]) hx hb dX0_countSteps_54 hl (k := 3) rfl (by rw [ey3]; first | rfl | decide) (by decide) rfl (fun ls hl => ?_)
        refine lv_goto (tgt := 4) hx hb dX0_countSteps_57 (by decide) ?_
        exact h _ _ hw _ (lv_sub hl [2, 3, 1, 0] rfl)
  refine lv_iconst (v := 0) hx hb dX0_countSteps_0 (by decide) ?_
  refine lv_istore_n (lv' := [(2, .int 0), (0, .ref (eA E 3)), (1, .int p1)]) hx hb dX0_countSteps_1 rfl hl (by decide) rfl (fun ls hl => ?_)
  refine lv_iconst (v := 1) hx hb dX0_countSteps_2 (by decide) ?_
  refine lv_istore_n (lv' := [(3, .int 1), (2, .int 0), (0, .ref (eA E 3)), (1, .int p1)]) hx hb dX0_countSteps_3 rfl hl (by decide) rfl (fun ls hl => ?_)
  exact h _ _ hw _ (lv_sub hl [2, 3, 1, 0] rfl)
theorem hy_X0_isOver : yX0_isOver.cls ≠ "java/lang/invoke/MethodHandle" ∧ yX0_isOver.cls ≠ "java/lang/invoke/VarHandle" ∧ (parseMethodDescriptor yX0_isOver.desc).map (fun d => d.parameters.length) = some 0 := by decide +kernel
def wp_X0_isOver (w : Wd) (Post : Int32 → Wd → Prop) : Prop :=
  ∀ J2 : Int32 → Wd → Prop, (∀ (x1 : Int32) (w : Wd), (((gI w (27 + 7 * 1) 6) ≤ x1 → (Post 1 w)) ∧ (¬ (gI w (27 + 7 * 1) 6) ≤ x1 → (wp_X0_countSteps w x1 (fun r1 w1 => (r1 ≤ 0 → (∀ y1 : Int32, y1 = x1 + 1 → (J2 y1 w1))) ∧ (¬ r1 ≤ 0 → (Post 0 w1)))))) → J2 x1 w) →
  J2 0 w
set_option maxHeartbeats 4000000 in
set_option maxRecDepth 100000 in
theorem mt_X0_isOver (l : Launch) {E : En} (hI : Inj E) (hF : ∀ o, (o < 15 ∨ 27 ≤ o ∧ o < 157) → o ∈ eL E) (w : Wd) {Post : Int32 → Wd → Prop} (h : wp_X0_isOver w Post) : MI l E yX0_isOver cX0_isOver 2 (some .boolean) 2 45 [.ref (eA E 3)] w Post := by
  refine MG.intro hI (by decide +kernel) (Nat.le_of_ble_eq_true rfl) ?_
  intro p e s m args below meth c Q C hr hlk hQ hw ls hl
  have hx := C.1
  have hb := C.2.1
  have hl : lv_has ls 2 [(0, .ref (eA E 3))] := hl
  unfold wp_X0_isOver at h
  have h := h (fun x1 w => Jp E p l e (Rm 2 45) s m args below meth c Q 2 2 [(0, .ref (eA E 3)), (1, .int x1)] w)
  have h := h ?_
  rotate_left
  · intro x1 w h H locs hw ls hl
    refine lv_iload_n hx hb dX0_isOver_2 rfl (lv_at hl 1 rfl) ?_
    refine lv_aload_n hx hb dX0_isOver_3 rfl (lv_at hl 0 rfl) ?_
    refine g0_0 C hw (hF 3 (by decide)) K_f_X0_12 dX0_isOver_4 ?_
    refine g6_6 C hw 1 (show 1 < 2 by decide) (hF _ (by have := (show 1 < 2 by decide); omega)) K_f_X0_57 dX0_isOver_7 ?_
    refine lv_icmp_ge (tgt := 29) hx hb dX0_isOver_10 (by decide) (fun c1 => ?_) (fun c1 => ?_)
    · have h := h.1 c1
      refine lv_iconst (v := 1) hx hb dX0_isOver_29 (by decide) ?_
      rw [hQ]
      exact ret_z C hr hlk hw h (by decide) dX0_isOver_30
    · have h := h.2 c1
      refine lv_aload_n hx hb dX0_isOver_13 rfl (lv_at hl 0 rfl) ?_
      refine lv_iload_n hx hb dX0_isOver_14 rfl (lv_at hl 1 rfl) ?_
      refine done_i hw (my_runV (As := [.int x1]) (rest := []) C hw 3 0 (hF 3 (by decide)) rfl rfl (mt_X0_countSteps l C.2.2.2.2.2.2.2 hF _ _ h) K_m_X0_61 K_i_X0_countSteps K_v_X0_countSteps K_n_X0 K_c_X0_countSteps hy_X0_countSteps ⟨Nat.le_of_ble_eq_true rfl, Nat.le_of_ble_eq_true rfl⟩ hl.1 rfl (Nat.le_of_ble_eq_true rfl) dX0_isOver_15 ⟨Nat.zero_le _, Nat.zero_le _⟩) (fun r1 w1 H locs h hw => ?_)
      refine lv_if_le (tgt := 23) hx hb dX0_isOver_18 (by decide) (fun c2 => ?_) (fun c2 => ?_)
      · have h := h.1 c2
        obtain ⟨y1, ey1⟩ : ∃ y : Int32, y = x1 + 1 := ⟨_, rfl⟩
        have h := h y1 ey1
        refine lv_iinc (v := y1) (lv' := [(1, .int y1), (0, .ref (eA E 3))]) hx hb dX0_isOver_23 hl (k := 1) rfl (by rw [ey1]; first | rfl | decide) (by decide) rfl (fun ls hl => ?_)
        refine lv_goto (tgt := 2) hx hb dX0_isOver_26 (by decide) ?_
        exact h _ _ hw _ (lv_sub hl [1, 0] rfl)
      · have h := h.2 c2
        refine lv_iconst (v := 0) hx hb dX0_isOver_21 (by decide) ?_
        rw [hQ]
        exact ret_z C hr hlk hw h (by decide) dX0_isOver_22
  refine lv_iconst (v := 0) hx hb dX0_isOver_0 (by decide) ?_
  refine lv_istore_n (lv' := [(1, .int 0), (0, .ref (eA E 3))]) hx hb dX0_isOver_1 rfl hl (by decide) rfl (fun ls hl => ?_)
  exact h _ _ hw _ (lv_sub hl [1, 0] rfl)
theorem hy_X3_setFor : yX3_setFor.cls ≠ "java/lang/invoke/MethodHandle" ∧ yX3_setFor.cls ≠ "java/lang/invoke/VarHandle" ∧ (parseMethodDescriptor yX3_setFor.desc).map (fun d => d.parameters.length) = some 3 := by decide +kernel
def wp_X3_setFor (k : Nat) (w : Wd) (p1 : Int32) (p2 : Int32) (p3 : Int32) (Post : Wd → Prop) : Prop :=
  ((gI w (41 + 2 * k) 1) = p1 → (((gI w (41 + 2 * k) 2) = p2 → (((gI w (41 + 2 * k) 3) = p3 → (Post w)) ∧ (¬ (gI w (41 + 2 * k) 3) = p3 → (Post (sI (sI (sI (sI w (41 + 2 * k) 1 p1) (41 + 2 * k) 2 p2) (41 + 2 * k) 3 p3) (41 + 2 * k) 4 0))))) ∧ (¬ (gI w (41 + 2 * k) 2) = p2 → (Post (sI (sI (sI (sI w (41 + 2 * k) 1 p1) (41 + 2 * k) 2 p2) (41 + 2 * k) 3 p3) (41 + 2 * k) 4 0))))) ∧ (¬ (gI w (41 + 2 * k) 1) = p1 → (Post (sI (sI (sI (sI w (41 + 2 * k) 1 p1) (41 + 2 * k) 2 p2) (41 + 2 * k) 3 p3) (41 + 2 * k) 4 0)))
set_option maxHeartbeats 4000000 in
set_option maxRecDepth 100000 in
theorem mt_X3_setFor (l : Launch) {E : En} (hI : Inj E) (hF : ∀ o, (o < 15 ∨ 27 ≤ o ∧ o < 157) → o ∈ eL E) (k : Nat) (hk : k < 6) (w : Wd) (p1 : Int32) (p2 : Int32) (p3 : Int32) {Post : Wd → Prop} (h : wp_X3_setFor k w p1 p2 p3 Post) : MV l E yX3_setFor cX3_setFor 4 none 0 0 [.ref (eA E ((41 + 2 * k))), .int p1, .int p2, .int p3] w Post := by
  refine MG.intro hI (by decide +kernel) (Nat.le_of_ble_eq_true rfl) ?_
  intro p e s m args below meth c Q C hr hlk hQ hw ls hl
  have hx := C.1
  have hb := C.2.1
  have hl : lv_has ls 4 [(0, .ref (eA E ((41 + 2 * k)))), (1, .int p1), (2, .int p2), (3, .int p3)] := hl
  unfold wp_X3_setFor at h
  refine lv_aload_n hx hb dX3_setFor_0 rfl (lv_at hl 0 rfl) ?_
  refine g3_1 C hw k hk (hF _ (by have := hk; omega)) K_f_X3_15 dX3_setFor_1 ?_
  refine lv_iload_n hx hb dX3_setFor_4 rfl (lv_at hl 1 rfl) ?_
  refine lv_icmp_ne (tgt := 24) hx hb dX3_setFor_5 (by decide) (fun c1 => ?_) (fun c1 => ?_)
  · have h := h.2 c1
    refine lv_aload_n hx hb dX3_setFor_24 rfl (lv_at hl 0 rfl) ?_
    refine lv_iload_n hx hb dX3_setFor_25 rfl (lv_at hl 1 rfl) ?_
    refine p3_1 C hw k hk (hF _ (by have := hk; omega)) K_f_X3_15 dX3_setFor_26 (fun H locs hw => ?_)
    refine lv_aload_n hx hb dX3_setFor_29 rfl (lv_at hl 0 rfl) ?_
    refine lv_iload_n hx hb dX3_setFor_30 rfl (lv_at hl 2 rfl) ?_
    refine p3_2 C hw k hk (hF _ (by have := hk; omega)) K_f_X3_19 dX3_setFor_31 (fun H locs hw => ?_)
    refine lv_aload_n hx hb dX3_setFor_34 rfl (lv_at hl 0 rfl) ?_
    refine lv_iload_n hx hb dX3_setFor_35 rfl (lv_at hl 3 rfl) ?_
    refine p3_3 C hw k hk (hF _ (by have := hk; omega)) K_f_X3_22 dX3_setFor_36 (fun H locs hw => ?_)
    refine lv_aload_n hx hb dX3_setFor_39 rfl (lv_at hl 0 rfl) ?_
    refine lv_iconst (v := 0) hx hb dX3_setFor_40 (by decide) ?_
    refine p3_4 C hw k hk (hF _ (by have := hk; omega)) K_f_X3_25 dX3_setFor_41 (fun H locs hw => ?_)
    rw [hQ]
    exact ret_v C hr hlk hw h dX3_setFor_44
  · have h := h.1 c1
    refine lv_aload_n hx hb dX3_setFor_8 rfl (lv_at hl 0 rfl) ?_
    refine g3_2 C hw k hk (hF _ (by have := hk; omega)) K_f_X3_19 dX3_setFor_9 ?_
    refine lv_iload_n hx hb dX3_setFor_12 rfl (lv_at hl 2 rfl) ?_
    refine lv_icmp_ne (tgt := 24) hx hb dX3_setFor_13 (by decide) (fun c2 => ?_) (fun c2 => ?_)
    · have h := h.2 c2
      refine lv_aload_n hx hb dX3_setFor_24 rfl (lv_at hl 0 rfl) ?_
      refine lv_iload_n hx hb dX3_setFor_25 rfl (lv_at hl 1 rfl) ?_
      refine p3_1 C hw k hk (hF _ (by have := hk; omega)) K_f_X3_15 dX3_setFor_26 (fun H locs hw => ?_)
      refine lv_aload_n hx hb dX3_setFor_29 rfl (lv_at hl 0 rfl) ?_
      refine lv_iload_n hx hb dX3_setFor_30 rfl (lv_at hl 2 rfl) ?_
      refine p3_2 C hw k hk (hF _ (by have := hk; omega)) K_f_X3_19 dX3_setFor_31 (fun H locs hw => ?_)
      refine lv_aload_n hx hb dX3_setFor_34 rfl (lv_at hl 0 rfl) ?_
      refine lv_iload_n hx hb dX3_setFor_35 rfl (lv_at hl 3 rfl) ?_
      refine p3_3 C hw k hk (hF _ (by have := hk; omega)) K_f_X3_22 dX3_setFor_36 (fun H locs hw => ?_)
      refine lv_aload_n hx hb dX3_setFor_39 rfl (lv_at hl 0 rfl) ?_
      refine lv_iconst (v := 0) hx hb dX3_setFor_40 (by decide) ?_
      refine p3_4 C hw k hk (hF _ (by have := hk; omega)) K_f_X3_25 dX3_setFor_41 (fun H locs hw => ?_)
      rw [hQ]
      exact ret_v C hr hlk hw h dX3_setFor_44
    · have h := h.1 c2
      refine lv_aload_n hx hb dX3_setFor_16 rfl (lv_at hl 0 rfl) ?_
      refine g3_3 C hw k hk (hF _ (by have := hk; omega)) K_f_X3_22 dX3_setFor_17 ?_
      refine lv_iload_n hx hb dX3_setFor_20 rfl (lv_at hl 3 rfl) ?_
      refine lv_icmp_eq (tgt := 44) hx hb dX3_setFor_21 (by decide) (fun c3 => ?_) (fun c3 => ?_)
      · have h := h.1 c3
        rw [hQ]
        exact ret_v C hr hlk hw h dX3_setFor_44
      · have h := h.2 c3
        refine lv_aload_n hx hb dX3_setFor_24 rfl (lv_at hl 0 rfl) ?_
        refine lv_iload_n hx hb dX3_setFor_25 rfl (lv_at hl 1 rfl) ?_
        refine p3_1 C hw k hk (hF _ (by have := hk; omega)) K_f_X3_15 dX3_setFor_26 (fun H locs hw => ?_)
        refine lv_aload_n hx hb dX3_setFor_29 rfl (lv_at hl 0 rfl) ?_
        refine lv_iload_n hx hb dX3_setFor_30 rfl (lv_at hl 2 rfl) ?_
        refine p3_2 C hw k hk (hF _ (by have := hk; omega)) K_f_X3_19 dX3_setFor_31 (fun H locs hw => ?_)
        refine lv_aload_n hx hb dX3_setFor_34 rfl (lv_at hl 0 rfl) ?_
        refine lv_iload_n hx hb dX3_setFor_35 rfl (lv_at hl 3 rfl) ?_
        refine p3_3 C hw k hk (hF _ (by have := hk; omega)) K_f_X3_22 dX3_setFor_36 (fun H locs hw => ?_)
        refine lv_aload_n hx hb dX3_setFor_39 rfl (lv_at hl 0 rfl) ?_
        refine lv_iconst (v := 0) hx hb dX3_setFor_40 (by decide) ?_
        refine p3_4 C hw k hk (hF _ (by have := hk; omega)) K_f_X3_25 dX3_setFor_41 (fun H locs hw => ?_)
        rw [hQ]
        exact ret_v C hr hlk hw h dX3_setFor_44
theorem hy_X0_valuesOf : yX0_valuesOf.cls ≠ "java/lang/invoke/MethodHandle" ∧ yX0_valuesOf.cls ≠ "java/lang/invoke/VarHandle" ∧ (parseMethodDescriptor yX0_valuesOf.desc).map (fun d => d.parameters.length) = some 1 := by decide +kernel
def wp_X0_valuesOf (w : Wd) (p1 : Int32) (Post : Nat → Wd → Prop) : Prop :=
  vp_in p1 6 ∧ (vp_in p1 6 ∧ (vp_in p1 6 ∧ (vp_in p1 6 ∧ (wp_X3_setFor p1.toNatClampNeg w (gA w (27 + 7 * 1 + 2) p1.toNatClampNeg) (gA w (27 + 7 * 1 + 3) p1.toNatClampNeg) (gA w (53 + 8 * 0 + 2) p1.toNatClampNeg) (fun w1 => Post p1.toNatClampNeg w1)))))
set_option maxHeartbeats 4000000 in
set_option maxRecDepth 100000 in
theorem mt_X0_valuesOf (l : Launch) {E : En} (hI : Inj E) (hF : ∀ o, (o < 15 ∨ 27 ≤ o ∧ o < 157) → o ∈ eL E) (w : Wd) (p1 : Int32) {Post : Nat → Wd → Prop} (h : wp_X0_valuesOf w p1 Post) : MR l E yX0_valuesOf cX0_valuesOf 3 (some (.object "CoinLadders$LadderValues")) 1 23 [.ref (eA E 3), .int p1] w Post := by
  refine MG.intro hI (by decide +kernel) (Nat.le_of_ble_eq_true rfl) ?_
  intro p e s m args below meth c Q C hr hlk hQ hw ls hl
  have hx := C.1
  have hb := C.2.1
  have hl : lv_has ls 3 [(0, .ref (eA E 3)), (1, .int p1)] := hl
  unfold wp_X0_valuesOf at h
  refine lv_aload_n hx hb dX0_valuesOf_0 rfl (lv_at hl 0 rfl) ?_
  refine g0_5 C hw (hF 3 (by decide)) K_f_X0_45 dX0_valuesOf_1 ?_
  refine lv_iload_n hx hb dX0_valuesOf_4 rfl (lv_at hl 1 rfl) ?_
  obtain ⟨hi1, h⟩ := h
  refine r_aald C hw 10 5 6 (hF 10 (by decide)) rfl rfl hi1 rfl dX0_valuesOf_5 ?_
  have hkr1 : p1.toNatClampNeg < 6 := by have := vp_lt hi1; omega
  refine lv_astore_n (lv' := [(2, .ref (eA E ((41 + 2 * p1.toNatClampNeg)))), (0, .ref (eA E 3)), (1, .int p1)]) hx hb dX0_valuesOf_6 rfl hl (by decide) rfl (fun ls hl => ?_)
  refine lv_aload_n hx hb dX0_valuesOf_7 rfl (lv_at hl 0 rfl) ?_
  refine lv_aload_n hx hb dX0_valuesOf_8 rfl (lv_at hl 1 rfl) ?_
  refine g0_0 C hw (hF 3 (by decide)) K_f_X0_12 dX0_valuesOf_9 ?_
  refine g6_1 C hw 1 (show 1 < 2 by decide) (hF _ (by have := (show 1 < 2 by decide); omega)) K_f_X0_87 dX0_valuesOf_12 ?_
  refine lv_iload_n hx hb dX0_valuesOf_15 rfl (lv_at hl 2 rfl) ?_
  obtain ⟨hi2, h⟩ := h
  refine r_iald C hw (27 + 7 * 1 + 2) 6 (hF _ (by have := (show 1 < 2 by decide); omega)) (ce_sea 2 (show 1 < 2 by decide) (by decide) (by decide)) hi2 dX0_valuesOf_16 ?_
  refine lv_aload_n hx hb dX0_valuesOf_17 rfl (lv_at hl 1 rfl) ?_
  refine g0_0 C hw (hF 3 (by decide)) K_f_X0_12 dX0_valuesOf_18 ?_
  refine g6_2 C hw 1 (show 1 < 2 by decide) (hF _ (by have := (show 1 < 2 by decide); omega)) K_f_X0_65 dX0_valuesOf_21 ?_
  refine lv_iload_n hx hb dX0_valuesOf_24 rfl (lv_at hl 2 rfl) ?_
  obtain ⟨hi3, h⟩ := h
  refine r_iald C hw (27 + 7 * 1 + 3) 6 (hF _ (by have := (show 1 < 2 by decide); omega)) (ce_sea 3 (show 1 < 2 by decide) (by decide) (by decide)) hi3 dX0_valuesOf_25 ?_
  refine lv_aload_n hx hb dX0_valuesOf_26 rfl (lv_at hl 1 rfl) ?_
  refine g0_1 C hw (hF 3 (by decide)) K_f_X0_21 dX0_valuesOf_27 ?_
  refine g7_1 C hw 0 (show 0 < 13 by decide) (hF _ (by have := (show 0 < 13 by decide); omega)) K_f_X0_75 dX0_valuesOf_30 ?_
  refine lv_iload_n hx hb dX0_valuesOf_33 rfl (lv_at hl 2 rfl) ?_
  obtain ⟨hi4, h⟩ := h
  refine r_iald C hw (53 + 8 * 0 + 2) 6 (hF _ (by have := (show 0 < 13 by decide); omega)) (ce_sta 2 (show 0 < 13 by decide) (by decide) (by decide)) hi4 dX0_valuesOf_34 ?_
  refine done_v hw (my_runV (As := [.int (gA w (27 + 7 * 1 + 2) p1.toNatClampNeg), .int (gA w (27 + 7 * 1 + 3) p1.toNatClampNeg), .int (gA w (53 + 8 * 0 + 2) p1.toNatClampNeg)]) (rest := []) C hw (41 + 2 * p1.toNatClampNeg) 3 (hF _ (by have := hkr1; omega)) (ce_lv hkr1) rfl (mt_X3_setFor l C.2.2.2.2.2.2.2 hF p1.toNatClampNeg hkr1 _ _ _ _ h) K_m_X0_90 K_i_X3_setFor K_v_X3_setFor K_n_X3 K_c_X3_setFor hy_X3_setFor ⟨Nat.le_of_ble_eq_true rfl, Nat.le_of_ble_eq_true rfl⟩ hl.1 rfl (Nat.le_of_ble_eq_true rfl) dX0_valuesOf_35 ⟨Nat.zero_le _, Nat.zero_le _⟩) (fun w1 H locs h hw => ?_)
  refine lv_aload_n hx hb dX0_valuesOf_38 rfl (lv_at hl 0 rfl) ?_
  rw [hQ]
  exact ret_a C hr hlk hw h hkr1 dX0_valuesOf_39
theorem hy_X4_listBehind : yX4_listBehind.cls ≠ "java/lang/invoke/MethodHandle" ∧ yX4_listBehind.cls ≠ "java/lang/invoke/VarHandle" ∧ (parseMethodDescriptor yX4_listBehind.desc).map (fun d => d.parameters.length) = some 3 := by decide +kernel
def wp_X4_listBehind (w : Wd) (p1 : Int32) (p2 : Int32) (p3 : Int32) (Post : Int32 → Wd → Prop) : Prop :=
  ∀ J6 : Int32 → Int32 → Wd → Prop, ∀ J38 : Int32 → Int32 → Int32 → Int32 → Wd → Prop, (∀ (x4 : Int32) (x5 : Int32) (w : Wd), ((12 < x5 → (Post x4 w)) ∧ (¬ 12 < x5 → (wp_X8_hasBit w p2 x5 (fun r1 w1 => (r1 = 0 → (J38 x4 x5 0 0 w1)) ∧ (¬ r1 = 0 → (wp_X4_targetsOf w1 p1 p3 x5 (fun r2 w2 => J38 x4 x5 r2 0 w2))))))) → J6 x4 x5 w) →
  (∀ (x4 : Int32) (x5 : Int32) (x6 : Int32) (x7 : Int32) (w : Wd), ((12 ≤ x7 → (∀ y1 : Int32, y1 = x5 + 1 → (J6 x4 y1 w))) ∧ (¬ 12 ≤ x7 → (((x6 >>> (x7 &&& 31)) = 0 → (∀ y2 : Int32, y2 = x5 + 1 → (J6 x4 y2 w))) ∧ (¬ (x6 >>> (x7 &&& 31)) = 0 → (wp_X8_hasBit w x6 x7 (fun r3 w3 => (r3 = 0 → (∀ y3 : Int32, y3 = x7 + 1 → (J38 x4 x5 x6 y3 w3))) ∧ (¬ r3 = 0 → ((12 ≤ x4 → (∀ y4 : Int32, y4 = x7 + 1 → (J38 x4 x5 x6 y4 w3))) ∧ (¬ 12 ≤ x4 → (wp_X8_moved w3 p1 (x7 + x5) x7 (fun r4 w4 => wp_X4_rankOf w4 r4 (fun r5 w5 => vp_in x4 12 ∧ (∀ y5 : Int32, y5 = x4 + 1 → (∀ y6 : Int32, y6 = x7 + 1 → (J38 y5 x5 x6 y6 (sA w5 7 x4.toNatClampNeg r5)))))))))))))))) → J38 x4 x5 x6 x7 w) →
  J6 0 1 w
set_option maxHeartbeats 4000000 in
set_option maxRecDepth 100000 in
theorem mt_X4_listBehind (l : Launch) {E : En} (hI : Inj E) (hF : ∀ o, (o < 15 ∨ 27 ≤ o ∧ o < 157) → o ∈ eL E) (w : Wd) (p1 : Int32) (p2 : Int32) (p3 : Int32) {Post : Int32 → Wd → Prop} (h : wp_X4_listBehind w p1 p2 p3 Post) : MI l E yX4_listBehind cX4_listBehind 8 (some .int) 1 23 [.ref (eA E 5), .int p1, .int p2, .int p3] w Post := by
  refine MG.intro hI (by decide +kernel) (Nat.le_of_ble_eq_true rfl) ?_
  intro p e s m args below meth c Q C hr hlk hQ hw ls hl
  have hx := C.1
  have hb := C.2.1
  have hl : lv_has ls 8 [(0, .ref (eA E 5)), (1, .int p1), (2, .int p2), (3, .int p3)] := hl
  unfold wp_X4_listBehind at h
  have h := h (fun x4 x5 w => Jp E p l e (Rm 1 23) s m args below meth c Q 8 6 [(0, .ref (eA E 5)), (1, .int p1), (2, .int p2), (3, .int p3), (4, .int x4), (5, .int x5)] w)
  have h := h (fun x4 x5 x6 x7 w => Jp E p l e (Rm 1 23) s m args below meth c Q 8 38 [(0, .ref (eA E 5)), (1, .int p1), (2, .int p2), (3, .int p3), (4, .int x4), (5, .int x5), (6, .int x6), (7, .int x7)] w)
  have h := h ?_
  rotate_left
  · intro x4 x5 w h H locs hw ls hl
    refine lv_iload hx hb dX4_listBehind_6 (lv_at hl 5 rfl) ?_
    refine lv_bipush (v := 12) hx hb dX4_listBehind_8 (by decide) ?_
    refine lv_icmp_gt (tgt := 106) hx hb dX4_listBehind_10 (by decide) (fun c1 => ?_) (fun c1 => ?_)
    · have h := h.1 c1
      refine lv_iload hx hb dX4_listBehind_106 (lv_at hl 4 rfl) ?_
      rw [hQ]
      exact ret_i C hr hlk hw h dX4_listBehind_108
    · have h := h.2 c1
      refine lv_iload_n hx hb dX4_listBehind_13 rfl (lv_at hl 2 rfl) ?_
      refine lv_iload hx hb dX4_listBehind_14 (lv_at hl 5 rfl) ?_
      refine done_i hw (my_runSN (As := [.int p2, .int x5]) (rest := []) C hw (mt_X8_hasBit l C.2.2.2.2.2.2.2 _ _ _ h) nw_X4_21 K_s_X8_hasBit K_n_X8 K_c_X8_hasBit hy_X8_hasBit ⟨Nat.le_of_ble_eq_true rfl, Nat.le_of_ble_eq_true rfl⟩ hl.1 rfl (Nat.le_of_ble_eq_true rfl) dX4_listBehind_16 ⟨Nat.zero_le _, Nat.zero_le _⟩) (fun r1 w1 H locs h hw => ?_)
      refine lv_if_eq (tgt := 32) hx hb dX4_listBehind_19 (by decide) (fun c2 => ?_) (fun c2 => ?_)
      · have h := h.1 c2
        refine lv_iconst (v := 0) hx hb dX4_listBehind_32 (by decide) ?_
        refine lv_istore (lv' := [(6, .int 0), (0, .ref (eA E 5)), (1, .int p1), (2, .int p2), (3, .int p3), (4, .int x4), (5, .int x5)]) hx hb dX4_listBehind_33 hl (by decide) rfl (fun ls hl => ?_)
        refine lv_iconst (v := 0) hx hb dX4_listBehind_35 (by decide) ?_
        refine lv_istore (lv' := [(7, .int 0), (6, .int 0), (0, .ref (eA E 5)), (1, .int p1), (2, .int p2), (3, .int p3), (4, .int x4), (5, .int x5)]) hx hb dX4_listBehind_36 hl (by decide) rfl (fun ls hl => ?_)
        exact h _ _ hw _ (lv_sub hl [2, 3, 4, 5, 6, 7, 1, 0] rfl)
      · have h := h.2 c2
        refine lv_iload_n hx hb dX4_listBehind_22 rfl (lv_at hl 1 rfl) ?_
        refine lv_iload_n hx hb dX4_listBehind_23 rfl (lv_at hl 3 rfl) ?_
        refine lv_iload hx hb dX4_listBehind_24 (lv_at hl 5 rfl) ?_
        refine done_i hw (my_runS (As := [.int p1, .int p3, .int x5]) (rest := []) C hw (mt_X4_targetsOf l C.2.2.2.2.2.2.2 _ _ _ _ h) K_m_X4_25 K_s_X4_targetsOf K_n_X4 K_c_X4_targetsOf hy_X4_targetsOf ⟨Nat.le_of_ble_eq_true rfl, Nat.le_of_ble_eq_true rfl⟩ hl.1 rfl (Nat.le_of_ble_eq_true rfl) dX4_listBehind_26 ⟨Nat.zero_le _, Nat.zero_le _⟩) (fun r2 w2 H locs h hw => ?_)
        refine lv_goto (tgt := 33) hx hb dX4_listBehind_29 (by decide) ?_
        refine lv_istore (lv' := [(6, .int r2), (0, .ref (eA E 5)), (1, .int p1), (2, .int p2), (3, .int p3), (4, .int x4), (5, .int x5)]) hx hb dX4_listBehind_33 hl (by decide) rfl (fun ls hl => ?_)
        refine lv_iconst (v := 0) hx hb dX4_listBehind_35 (by decide) ?_
        refine lv_istore (lv' := [(7, .int 0), (6, .int r2), (0, .ref (eA E 5)), (1, .int p1), (2, .int p2), (3, .int p3), (4, .int x4), (5, .int x5)]) hx hb dX4_listBehind_36 hl (by decide) rfl (fun ls hl => ?_)
        exact h _ _ hw _ (lv_sub hl [2, 3, 4, 5, 6, 7, 1, 0] rfl)
  have h := h ?_
  rotate_left
  · intro x4 x5 x6 x7 w h H locs hw ls hl
    refine lv_iload hx hb dX4_listBehind_38 (lv_at hl 7 rfl) ?_
    refine lv_bipush (v := 12) hx hb dX4_listBehind_40 (by decide) ?_
    refine lv_icmp_ge (tgt := 100) hx hb dX4_listBehind_42 (by decide) (fun c3 => ?_) (fun c3 => ?_)
    · have h := h.1 c3
      obtain ⟨y1, ey1⟩ : ∃ y : Int32, y = x5 + 1 := ⟨_, rfl⟩
      have h := h y1 ey1
      refine lv_iinc (v := y1) (lv' := [(5, .int y1), (0, .ref (eA E 5)), (1, .int p1), (2, .int p2), (3, .int p3), (4, .int x4), (6, .int x6), (7, .int x7)]) hx hb dX4_listBehind_100 hl (k := 5) rfl (by rw [ey1]; first | rfl | decide) (by decide) rfl (fun ls hl => ?_)
      refine lv_goto (tgt := 6) hx hb dX4_listBehind_103 (by decide) ?_
      exact h _ _ hw _ (lv_sub hl [1, 2, 3, 4, 5, 0] rfl)
    · have h := h.2 c3
      refine lv_iload hx hb dX4_listBehind_45 (lv_at hl 6 rfl) ?_
      refine lv_iload hx hb dX4_listBehind_47 (lv_at hl 7 rfl) ?_
      refine lv_ishr hx hb dX4_listBehind_49 ?_
      refine lv_if_eq (tgt := 100) hx hb dX4_listBehind_50 (by decide) (fun c4 => ?_) (fun c4 => ?_)
      · have h := h.1 c4
        obtain ⟨y2, ey2⟩ : ∃ y : Int32, y = x5 + 1 := ⟨_, rfl⟩
        have h := h y2 ey2
        refine lv_iinc (v := y2) (lv' := [(5, .int y2), (0, .ref (eA E 5)), (1, .int p1), (2, .int p2), (3, .int p3), (4, .int x4), (6, .int x6), (7, .int x7)]) hx hb dX4_listBehind_100 hl (k := 5) rfl (by rw [ey2]; first | rfl | decide) (by decide) rfl (fun ls hl => ?_)
        refine lv_goto (tgt := 6) hx hb dX4_listBehind_103 (by decide) ?_
        exact h _ _ hw _ (lv_sub hl [1, 2, 3, 4, 5, 0] rfl)
      · have h := h.2 c4
        refine lv_iload hx hb dX4_listBehind_53 (lv_at hl 6 rfl) ?_
        refine lv_iload hx hb dX4_listBehind_55 (lv_at hl 7 rfl) ?_
        refine done_i hw (my_runSN (As := [.int x6, .int x7]) (rest := []) C hw (mt_X8_hasBit l C.2.2.2.2.2.2.2 _ _ _ h) nw_X4_21 K_s_X8_hasBit K_n_X8 K_c_X8_hasBit hy_X8_hasBit ⟨Nat.le_of_ble_eq_true rfl, Nat.le_of_ble_eq_true rfl⟩ hl.1 rfl (Nat.le_of_ble_eq_true rfl) dX4_listBehind_57 ⟨Nat.zero_le _, Nat.zero_le _⟩) (fun r3 w3 H locs h hw => ?_)
        refine lv_if_eq (tgt := 94) hx hb dX4_listBehind_60 (by decide) (fun c5 => ?_) (fun c5 => ?_)
        · have h := h.1 c5
          obtain ⟨y3, ey3⟩ : ∃ y : Int32, y = x7 + 1 := ⟨_, rfl⟩
          have h := h y3 ey3
          refine lv_iinc (v := y3) (lv' := [(7, .int y3), (0, .ref (eA E 5)), (1, .int p1), (2, .int p2), (3, .int p3), (4, .int x4), (5, .int x5), (6, .int x6)]) hx hb dX4_listBehind_94 hl (k := 7) rfl (by rw [ey3]; first | rfl | decide) (by decide) rfl (fun ls hl => ?_)
          refine lv_goto (tgt := 38) hx hb dX4_listBehind_97 (by decide) ?_
          exact h _ _ hw _ (lv_sub hl [1, 2, 3, 4, 5, 6, 7, 0] rfl)
        · have h := h.2 c5
          refine lv_iload hx hb dX4_listBehind_63 (lv_at hl 4 rfl) ?_
          refine lv_bipush (v := 12) hx hb dX4_listBehind_65 (by decide) ?_
          refine lv_icmp_ge (tgt := 94) hx hb dX4_listBehind_67 (by decide) (fun c6 => ?_) (fun c6 => ?_)
          · have h := h.1 c6
            obtain ⟨y4, ey4⟩ : ∃ y : Int32, y = x7 + 1 := ⟨_, rfl⟩
            have h := h y4 ey4
            refine lv_iinc (v := y4) (lv' := [(7, .int y4), (0, .ref (eA E 5)), (1, .int p1), (2, .int p2), (3, .int p3), (4, .int x4), (5, .int x5), (6, .int x6)]) hx hb dX4_listBehind_94 hl (k := 7) rfl (by rw [ey4]; first | rfl | decide) (by decide) rfl (fun ls hl => ?_)
            refine lv_goto (tgt := 38) hx hb dX4_listBehind_97 (by decide) ?_
            exact h _ _ hw _ (lv_sub hl [1, 2, 3, 4, 5, 6, 7, 0] rfl)
          · have h := h.2 c6
            refine lv_aload_n hx hb dX4_listBehind_70 rfl (lv_at hl 0 rfl) ?_
            refine g4_1 C hw (hF 5 (by decide)) K_f_X4_15 dX4_listBehind_71 ?_
            refine lv_iload hx hb dX4_listBehind_74 (lv_at hl 4 rfl) ?_
            refine lv_iload_n hx hb dX4_listBehind_76 rfl (lv_at hl 1 rfl) ?_
            refine lv_iload hx hb dX4_listBehind_77 (lv_at hl 7 rfl) ?_
            refine lv_iload hx hb dX4_listBehind_79 (lv_at hl 5 rfl) ?_
            refine lv_iadd hx hb dX4_listBehind_81 ?_
            refine lv_iload hx hb dX4_listBehind_82 (lv_at hl 7 rfl) ?_
            refine done_i hw (my_runSN (As := [.int p1, .int (x7 + x5), .int x7]) (rest := [.int x4, .ref (eA E 7)]) C hw (mt_X8_moved l C.2.2.2.2.2.2.2 _ _ _ _ h) nw_X4_29 K_s_X8_moved K_n_X8 K_c_X8_moved hy_X8_moved ⟨Nat.le_of_ble_eq_true rfl, Nat.le_of_ble_eq_true rfl⟩ hl.1 rfl (Nat.le_of_ble_eq_true rfl) dX4_listBehind_84 ⟨Nat.zero_le _, Nat.zero_le _⟩) (fun r4 w4 H locs h hw => ?_)
            refine done_i hw (my_runS (As := [.int r4]) (rest := [.int x4, .ref (eA E 7)]) C hw (mt_X4_rankOf l C.2.2.2.2.2.2.2 _ _ h) K_m_X4_32 K_s_X4_rankOf K_n_X4 K_c_X4_rankOf hy_X4_rankOf ⟨Nat.le_of_ble_eq_true rfl, Nat.le_of_ble_eq_true rfl⟩ hl.1 rfl (Nat.le_of_ble_eq_true rfl) dX4_listBehind_87 ⟨Nat.zero_le _, Nat.zero_le _⟩) (fun r5 w5 H locs h hw => ?_)
            obtain ⟨hi1, h⟩ := h
            refine r_iast C hw 7 12 (hF 7 (by decide)) (fun _ => rfl) hi1 dX4_listBehind_90 (fun H locs hw => ?_)
            obtain ⟨y5, ey5⟩ : ∃ y : Int32, y = x4 + 1 := ⟨_, rfl⟩
            have h := h y5 ey5
            refine lv_iinc (v := y5) (lv' := [(4, .int y5), (0, .ref (eA E 5)), (1, .int p1), (2, .int p2), (3, .int p3), (5, .int x5), (6, .int x6), (7, .int x7)]) hx hb dX4_listBehind_91 hl (k := 4) rfl (by rw [ey5]; first | rfl | decide) (by decide) rfl (fun ls hl => ?_)
            obtain ⟨y6, ey6⟩ : ∃ y : Int32, y = x7 + 1 := ⟨_, rfl⟩
            have h := h y6 ey6
            refine lv_iinc (v := y6) (lv' := [(7, .int y6), (4, .int y5), (0, .ref (eA E 5)), (1, .int p1), (2, .int p2), (3, .int p3), (5, .int x5), (6, .int x6)]) hx hb dX4_listBehind_94 hl (k := 7) rfl (by rw [ey6]; first | rfl | decide) (by decide) rfl (fun ls hl => ?_)
            refine lv_goto (tgt := 38) hx hb dX4_listBehind_97 (by decide) ?_
            exact h _ _ hw _ (lv_sub hl [2, 3, 4, 5, 1, 6, 7, 0] rfl)
  refine lv_iconst (v := 0) hx hb dX4_listBehind_0 (by decide) ?_
  refine lv_istore (lv' := [(4, .int 0), (0, .ref (eA E 5)), (1, .int p1), (2, .int p2), (3, .int p3)]) hx hb dX4_listBehind_1 hl (by decide) rfl (fun ls hl => ?_)
  refine lv_iconst (v := 1) hx hb dX4_listBehind_3 (by decide) ?_
  refine lv_istore (lv' := [(5, .int 1), (4, .int 0), (0, .ref (eA E 5)), (1, .int p1), (2, .int p2), (3, .int p3)]) hx hb dX4_listBehind_4 hl (by decide) rfl (fun ls hl => ?_)
  exact h _ _ hw _ (lv_sub hl [2, 3, 4, 5, 1, 0] rfl)
theorem hy_X3_valuesBehind : yX3_valuesBehind.cls ≠ "java/lang/invoke/MethodHandle" ∧ yX3_valuesBehind.cls ≠ "java/lang/invoke/VarHandle" ∧ (parseMethodDescriptor yX3_valuesBehind.desc).map (fun d => d.parameters.length) = some 2 := by decide +kernel
def wp_X3_valuesBehind (k : Nat) (w : Wd) (p2 : Int32) (Post : Int32 → Wd → Prop) : Prop :=
  ∀ J20 : Int32 → Int32 → Int32 → Wd → Prop, (∀ (x3 : Int32) (x4 : Int32) (x5 : Int32) (w : Wd), ((x4 ≤ x5 → (Post x3 w)) ∧ (¬ x4 ≤ x5 → (vp_in x5 12 ∧ (vp_in (gA w 7 x5.toNatClampNeg) 299 ∧ (∀ y1 : Int32, y1 = x3 ||| ((1 : Int32) <<< ((gA w (41 + 2 * k + 1) ((gA w 7 x5.toNatClampNeg).toNatClampNeg)) &&& 31)) → (∀ y2 : Int32, y2 = x5 + 1 → (J20 y1 x4 y2 w))))))) → J20 x3 x4 x5 w) →
  wp_X4_listBehind w p2 (gI w (41 + 2 * k) 2) (gI w (41 + 2 * k) 3) (fun r1 w1 => J20 0 r1 0 w1)
set_option maxHeartbeats 4000000 in
set_option maxRecDepth 100000 in
theorem mt_X3_valuesBehind (l : Launch) {E : En} (hI : Inj E) (hF : ∀ o, (o < 15 ∨ 27 ≤ o ∧ o < 157) → o ∈ eL E) (k : Nat) (hk : k < 6) (w : Wd) (p2 : Int32) {Post : Int32 → Wd → Prop} (h : wp_X3_valuesBehind k w p2 Post) : MI l E yX3_valuesBehind cX3_valuesBehind 6 (some .int) 2 50 [.ref (eA E ((41 + 2 * k))), .ref (eA E 5), .int p2] w Post := by
  refine MG.intro hI (by decide +kernel) (Nat.le_of_ble_eq_true rfl) ?_
  intro p e s m args below meth c Q C hr hlk hQ hw ls hl
  have hx := C.1
  have hb := C.2.1
  have hl : lv_has ls 6 [(0, .ref (eA E ((41 + 2 * k)))), (1, .ref (eA E 5)), (2, .int p2)] := hl
  unfold wp_X3_valuesBehind at h
  have h := h (fun x3 x4 x5 w => Jp E p l e (Rm 2 50) s m args below meth c Q 6 20 [(0, .ref (eA E ((41 + 2 * k)))), (1, .ref (eA E 5)), (3, .int x3), (4, .int x4), (5, .int x5)] w)
  have h := h ?_
  rotate_left
  · intro x3 x4 x5 w h H locs hw ls hl
    refine lv_iload hx hb dX3_valuesBehind_20 (lv_at hl 4 rfl) ?_
    refine lv_iload hx hb dX3_valuesBehind_22 (lv_at hl 3 rfl) ?_
    refine lv_icmp_ge (tgt := 50) hx hb dX3_valuesBehind_24 (by decide) (fun c1 => ?_) (fun c1 => ?_)
    · have h := h.1 c1
      refine lv_iload_n hx hb dX3_valuesBehind_50 rfl (lv_at hl 2 rfl) ?_
      rw [hQ]
      exact ret_i C hr hlk hw h dX3_valuesBehind_51
    · have h := h.2 c1
      refine lv_iload_n hx hb dX3_valuesBehind_27 rfl (lv_at hl 2 rfl) ?_
      refine lv_iconst (v := 1) hx hb dX3_valuesBehind_28 (by decide) ?_
      refine lv_aload_n hx hb dX3_valuesBehind_29 rfl (lv_at hl 0 rfl) ?_
      refine g3_0 C hw k hk (hF _ (by have := hk; omega)) K_f_X3_9 dX3_valuesBehind_30 ?_
      refine lv_aload_n hx hb dX3_valuesBehind_33 rfl (lv_at hl 1 rfl) ?_
      refine g4_1 C hw (hF 5 (by decide)) K_f_X3_50 dX3_valuesBehind_34 ?_
      refine lv_iload hx hb dX3_valuesBehind_37 (lv_at hl 4 rfl) ?_
      obtain ⟨hi1, h⟩ := h
      refine r_iald C hw 7 12 (hF 7 (by decide)) rfl hi1 dX3_valuesBehind_39 ?_
      obtain ⟨hi2, h⟩ := h
      refine r_iald C hw (41 + 2 * k + 1) 299 (hF _ (by have := hk; omega)) (ce_lva hk) hi2 dX3_valuesBehind_40 ?_
      refine lv_ishl hx hb dX3_valuesBehind_41 ?_
      refine lv_ior hx hb dX3_valuesBehind_42 ?_
      refine lv_topi (fun y1 ey1 => ?_)
      have h := h y1 ey1
      refine lv_istore_n (lv' := [(3, .int y1), (0, .ref (eA E ((41 + 2 * k)))), (1, .ref (eA E 5)), (4, .int x4), (5, .int x5)]) hx hb dX3_valuesBehind_43 rfl hl (by decide) rfl (fun ls hl => ?_)
      obtain ⟨y2, ey2⟩ : ∃ y : Int32, y = x5 + 1 := ⟨_, rfl⟩
      have h := h y2 ey2
      refine lv_iinc (v := y2) (lv' := [(5, .int y2), (3, .int y1), (0, .ref (eA E ((41 + 2 * k)))), (1, .ref (eA E 5)), (4, .int x4)]) hx hb dX3_valuesBehind_44 hl (k := 4) rfl (by rw [ey2]; first | rfl | decide) (by decide) rfl (fun ls hl => ?_)
      refine lv_goto (tgt := 20) hx hb dX3_valuesBehind_47 (by decide) ?_
      exact h _ _ hw _ (lv_sub hl [2, 3, 1, 4, 0] rfl)
  refine lv_iconst (v := 0) hx hb dX3_valuesBehind_0 (by decide) ?_
  refine lv_istore_n (lv' := [(3, .int 0), (0, .ref (eA E ((41 + 2 * k)))), (1, .ref (eA E 5)), (2, .int p2)]) hx hb dX3_valuesBehind_1 rfl hl (by decide) rfl (fun ls hl => ?_)
  refine lv_aload_n hx hb dX3_valuesBehind_2 rfl (lv_at hl 2 rfl) ?_
  refine lv_iload_n hx hb dX3_valuesBehind_3 rfl (lv_at hl 3 rfl) ?_
  refine lv_aload_n hx hb dX3_valuesBehind_4 rfl (lv_at hl 1 rfl) ?_
  refine g3_2 C hw k hk (hF _ (by have := hk; omega)) K_f_X3_19 dX3_valuesBehind_5 ?_
  refine lv_aload_n hx hb dX3_valuesBehind_8 rfl (lv_at hl 1 rfl) ?_
  refine g3_3 C hw k hk (hF _ (by have := hk; omega)) K_f_X3_22 dX3_valuesBehind_9 ?_
  refine done_i hw (my_runV (As := [.int p2, .int (gI w (41 + 2 * k) 2), .int (gI w (41 + 2 * k) 3)]) (rest := []) C hw 5 4 (hF 5 (by decide)) rfl rfl (mt_X4_listBehind l C.2.2.2.2.2.2.2 hF _ _ _ _ h) K_m_X3_46 K_i_X4_listBehind K_v_X4_listBehind K_n_X4 K_c_X4_listBehind hy_X4_listBehind ⟨Nat.le_of_ble_eq_true rfl, Nat.le_of_ble_eq_true rfl⟩ hl.1 rfl (Nat.le_of_ble_eq_true rfl) dX3_valuesBehind_12 ⟨Nat.zero_le _, Nat.zero_le _⟩) (fun r1 w1 H locs h hw => ?_)
  refine lv_istore (lv' := [(4, .int r1), (3, .int 0), (0, .ref (eA E ((41 + 2 * k)))), (1, .ref (eA E 5)), (2, .int p2)]) hx hb dX3_valuesBehind_15 hl (by decide) rfl (fun ls hl => ?_)
  refine lv_iconst (v := 0) hx hb dX3_valuesBehind_17 (by decide) ?_
  refine lv_istore (lv' := [(5, .int 0), (4, .int r1), (3, .int 0), (0, .ref (eA E ((41 + 2 * k)))), (1, .ref (eA E 5)), (2, .int p2)]) hx hb dX3_valuesBehind_18 hl (by decide) rfl (fun ls hl => ?_)
  exact h _ _ hw _ (lv_sub hl [3, 4, 2, 1, 0] rfl)
theorem hy_X3_firstMissing : yX3_firstMissing.cls ≠ "java/lang/invoke/MethodHandle" ∧ yX3_firstMissing.cls ≠ "java/lang/invoke/VarHandle" ∧ (parseMethodDescriptor yX3_firstMissing.desc).map (fun d => d.parameters.length) = some 1 := by decide +kernel
def wp_X3_firstMissing (w : Wd) (p0 : Int32) (Post : Int32 → Wd → Prop) : Prop :=
  ∀ J2 : Int32 → Wd → Prop, (∀ (x1 : Int32) (w : Wd), ((12 < x1 → (Post x1 w)) ∧ (¬ 12 < x1 → (wp_X8_hasBit w p0 x1 (fun r1 w1 => (r1 = 0 → (Post x1 w1)) ∧ (¬ r1 = 0 → (∀ y1 : Int32, y1 = x1 + 1 → (J2 y1 w1))))))) → J2 x1 w) →
  J2 0 w
set_option maxHeartbeats 4000000 in
set_option maxRecDepth 100000 in
theorem mt_X3_firstMissing (l : Launch) {E : En} (hI : Inj E) (hF : ∀ o, (o < 15 ∨ 27 ≤ o ∧ o < 157) → o ∈ eL E) (w : Wd) (p0 : Int32) {Post : Int32 → Wd → Prop} (h : wp_X3_firstMissing w p0 Post) : MI l E yX3_firstMissing cX3_firstMissing 2 (some .int) 1 21 [.int p0] w Post := by
  refine MG.intro hI (by decide +kernel) (Nat.le_of_ble_eq_true rfl) ?_
  intro p e s m args below meth c Q C hr hlk hQ hw ls hl
  have hx := C.1
  have hb := C.2.1
  have hl : lv_has ls 2 [(0, .int p0)] := hl
  unfold wp_X3_firstMissing at h
  have h := h (fun x1 w => Jp E p l e (Rm 1 21) s m args below meth c Q 2 2 [(0, .int p0), (1, .int x1)] w)
  have h := h ?_
  rotate_left
  · intro x1 w h H locs hw ls hl
    refine lv_iload_n hx hb dX3_firstMissing_2 rfl (lv_at hl 1 rfl) ?_
    refine lv_bipush (v := 12) hx hb dX3_firstMissing_3 (by decide) ?_
    refine lv_icmp_gt (tgt := 22) hx hb dX3_firstMissing_5 (by decide) (fun c1 => ?_) (fun c1 => ?_)
    · have h := h.1 c1
      refine lv_iload_n hx hb dX3_firstMissing_22 rfl (lv_at hl 1 rfl) ?_
      rw [hQ]
      exact ret_i C hr hlk hw h dX3_firstMissing_23
    · have h := h.2 c1
      refine lv_iload_n hx hb dX3_firstMissing_8 rfl (lv_at hl 0 rfl) ?_
      refine lv_iload_n hx hb dX3_firstMissing_9 rfl (lv_at hl 1 rfl) ?_
      refine done_i hw (my_runSN (As := [.int p0, .int x1]) (rest := []) C hw (mt_X8_hasBit l C.2.2.2.2.2.2.2 _ _ _ h) nw_X3_53 K_s_X8_hasBit K_n_X8 K_c_X8_hasBit hy_X8_hasBit ⟨Nat.le_of_ble_eq_true rfl, Nat.le_of_ble_eq_true rfl⟩ hl.1 rfl (Nat.le_of_ble_eq_true rfl) dX3_firstMissing_10 ⟨Nat.zero_le _, Nat.zero_le _⟩) (fun r1 w1 H locs h hw => ?_)
      refine lv_if_eq (tgt := 22) hx hb dX3_firstMissing_13 (by decide) (fun c2 => ?_) (fun c2 => ?_)
      · have h := h.1 c2
        refine lv_iload_n hx hb dX3_firstMissing_22 rfl (lv_at hl 1 rfl) ?_
        rw [hQ]
        exact ret_i C hr hlk hw h dX3_firstMissing_23
      · have h := h.2 c2
        obtain ⟨y1, ey1⟩ : ∃ y : Int32, y = x1 + 1 := ⟨_, rfl⟩
        have h := h y1 ey1
        refine lv_iinc (v := y1) (lv' := [(1, .int y1), (0, .int p0)]) hx hb dX3_firstMissing_16 hl (k := 1) rfl (by rw [ey1]; first | rfl | decide) (by decide) rfl (fun ls hl => ?_)
        refine lv_goto (tgt := 2) hx hb dX3_firstMissing_19 (by decide) ?_
        exact h _ _ hw _ (lv_sub hl [1, 0] rfl)
  refine lv_iconst (v := 0) hx hb dX3_firstMissing_0 (by decide) ?_
  refine lv_istore_n (lv' := [(1, .int 0), (0, .int p0)]) hx hb dX3_firstMissing_1 rfl hl (by decide) rfl (fun ls hl => ?_)
  exact h _ _ hw _ (lv_sub hl [1, 0] rfl)
theorem hy_X3_valueAt : yX3_valueAt.cls ≠ "java/lang/invoke/MethodHandle" ∧ yX3_valueAt.cls ≠ "java/lang/invoke/VarHandle" ∧ (parseMethodDescriptor yX3_valueAt.desc).map (fun d => d.parameters.length) = some 2 := by decide +kernel
def wp_X3_valueAt (k : Nat) (w : Wd) (p2 : Int32) (Post : Int32 → Wd → Prop) : Prop :=
  ∀ J0 : Wd → Prop, (∀ (w : Wd), ((p2 < (gI w (41 + 2 * k) 4) → ((p2 < 0 → (Post 0 w)) ∧ (¬ p2 < 0 → ((299 ≤ p2 → (Post 0 w)) ∧ (¬ 299 ≤ p2 → (vp_in p2 299 ∧ (Post (gA w (41 + 2 * k + 1) p2.toNatClampNeg) w))))))) ∧ (¬ p2 < (gI w (41 + 2 * k) 4) → ((299 ≤ (gI w (41 + 2 * k) 4) → ((p2 < 0 → (Post 0 w)) ∧ (¬ p2 < 0 → ((299 ≤ p2 → (Post 0 w)) ∧ (¬ 299 ≤ p2 → (vp_in p2 299 ∧ (Post (gA w (41 + 2 * k + 1) p2.toNatClampNeg) w))))))) ∧ (¬ 299 ≤ (gI w (41 + 2 * k) 4) → (vp_in (gI w (41 + 2 * k) 4) 299 ∧ (∀ y1 : Int32, y1 = gA w 6 ((gI w (41 + 2 * k) 4).toNatClampNeg) → (wp_J6_bitCount_0f7a4 w y1 (fun r1 w1 => (r1 ≤ (gI w1 (41 + 2 * k) 1) → (wp_X3_valuesBehind k w1 y1 (fun r2 w2 => wp_X3_firstMissing w2 r2 (fun r3 w3 => vp_in (gI w (41 + 2 * k) 4) 299 ∧ (∀ y2 : Int32, y2 = (gI (sA w3 (41 + 2 * k + 1) ((gI w (41 + 2 * k) 4).toNatClampNeg) r3) (41 + 2 * k) 4) + 1 → (J0 (sI (sA w3 (41 + 2 * k + 1) ((gI w (41 + 2 * k) 4).toNatClampNeg) r3) (41 + 2 * k) 4 y2))))))) ∧ (¬ r1 ≤ (gI w1 (41 + 2 * k) 1) → (vp_in (gI w (41 + 2 * k) 4) 299 ∧ (∀ y3 : Int32, y3 = (gI (sA w1 (41 + 2 * k + 1) ((gI w (41 + 2 * k) 4).toNatClampNeg) 0) (41 + 2 * k) 4) + 1 → (J0 (sI (sA w1 (41 + 2 * k + 1) ((gI w (41 + 2 * k) 4).toNatClampNeg) 0) (41 + 2 * k) 4 y3))))))))))))) → J0 w) →
  J0 w
set_option maxHeartbeats 4000000 in
set_option maxRecDepth 100000 in
theorem mt_X3_valueAt (l : Launch) {E : En} (hI : Inj E) (hF : ∀ o, (o < 15 ∨ 27 ≤ o ∧ o < 157) → o ∈ eL E) (k : Nat) (hk : k < 6) (w : Wd) (p2 : Int32) {Post : Int32 → Wd → Prop} (h : wp_X3_valueAt k w p2 Post) : MI l E yX3_valueAt cX3_valueAt 4 (some .int) 3 75 [.ref (eA E ((41 + 2 * k))), .ref (eA E 5), .int p2] w Post := by
  refine MG.intro hI (by decide +kernel) (Nat.le_of_ble_eq_true rfl) ?_
  intro p e s m args below meth c Q C hr hlk hQ hw ls hl
  have hx := C.1
  have hb := C.2.1
  have hl : lv_has ls 4 [(0, .ref (eA E ((41 + 2 * k)))), (1, .ref (eA E 5)), (2, .int p2)] := hl
  unfold wp_X3_valueAt at h
  have h := h (fun w => Jp E p l e (Rm 3 75) s m args below meth c Q 4 0 [(0, .ref (eA E ((41 + 2 * k)))), (1, .ref (eA E 5)), (2, .int p2)] w)
  have h := h ?_
  rotate_left
  · intro w h H locs hw ls hl
    refine lv_aload_n hx hb dX3_valueAt_0 rfl (lv_at hl 0 rfl) ?_
    refine g3_4 C hw k hk (hF _ (by have := hk; omega)) K_f_X3_25 dX3_valueAt_1 ?_
    refine lv_iload_n hx hb dX3_valueAt_4 rfl (lv_at hl 2 rfl) ?_
    refine lv_icmp_gt (tgt := 74) hx hb dX3_valueAt_5 (by decide) (fun c1 => ?_) (fun c1 => ?_)
    · have h := h.1 c1
      refine lv_iload_n hx hb dX3_valueAt_74 rfl (lv_at hl 2 rfl) ?_
      refine lv_if_lt (tgt := 94) hx hb dX3_valueAt_75 (by decide) (fun c2 => ?_) (fun c2 => ?_)
      · have h := h.1 c2
        refine lv_iconst (v := 0) hx hb dX3_valueAt_94 (by decide) ?_
        rw [hQ]
        exact ret_i C hr hlk hw h dX3_valueAt_95
      · have h := h.2 c2
        refine lv_iload_n hx hb dX3_valueAt_78 rfl (lv_at hl 2 rfl) ?_
        refine lv_sipush (v := 299) hx hb dX3_valueAt_79 (by decide) ?_
        refine lv_icmp_ge (tgt := 94) hx hb dX3_valueAt_82 (by decide) (fun c3 => ?_) (fun c3 => ?_)
        · have h := h.1 c3
          refine lv_iconst (v := 0) hx hb dX3_valueAt_94 (by decide) ?_
          rw [hQ]
          exact ret_i C hr hlk hw h dX3_valueAt_95
        · have h := h.2 c3
          refine lv_aload_n hx hb dX3_valueAt_85 rfl (lv_at hl 0 rfl) ?_
          refine g3_0 C hw k hk (hF _ (by have := hk; omega)) K_f_X3_9 dX3_valueAt_86 ?_
          refine lv_iload_n hx hb dX3_valueAt_89 rfl (lv_at hl 2 rfl) ?_
          obtain ⟨hi1, h⟩ := h
          refine r_iald C hw (41 + 2 * k + 1) 299 (hF _ (by have := hk; omega)) (ce_lva hk) hi1 dX3_valueAt_90 ?_
          refine lv_goto (tgt := 95) hx hb dX3_valueAt_91 (by decide) ?_
          rw [hQ]
          exact ret_i C hr hlk hw h dX3_valueAt_95
    · have h := h.2 c1
      refine lv_aload_n hx hb dX3_valueAt_8 rfl (lv_at hl 0 rfl) ?_
      refine g3_4 C hw k hk (hF _ (by have := hk; omega)) K_f_X3_25 dX3_valueAt_9 ?_
      refine lv_sipush (v := 299) hx hb dX3_valueAt_12 (by decide) ?_
      refine lv_icmp_ge (tgt := 74) hx hb dX3_valueAt_15 (by decide) (fun c4 => ?_) (fun c4 => ?_)
      · have h := h.1 c4
        refine lv_iload_n hx hb dX3_valueAt_74 rfl (lv_at hl 2 rfl) ?_
        refine lv_if_lt (tgt := 94) hx hb dX3_valueAt_75 (by decide) (fun c5 => ?_) (fun c5 => ?_)
        · have h := h.1 c5
          refine lv_iconst (v := 0) hx hb dX3_valueAt_94 (by decide) ?_
          rw [hQ]
          exact ret_i C hr hlk hw h dX3_valueAt_95
        · have h := h.2 c5
          refine lv_iload_n hx hb dX3_valueAt_78 rfl (lv_at hl 2 rfl) ?_
          refine lv_sipush (v := 299) hx hb dX3_valueAt_79 (by decide) ?_
          refine lv_icmp_ge (tgt := 94) hx hb dX3_valueAt_82 (by decide) (fun c6 => ?_) (fun c6 => ?_)
          · have h := h.1 c6
            refine lv_iconst (v := 0) hx hb dX3_valueAt_94 (by decide) ?_
            rw [hQ]
            exact ret_i C hr hlk hw h dX3_valueAt_95
          · have h := h.2 c6
            refine lv_aload_n hx hb dX3_valueAt_85 rfl (lv_at hl 0 rfl) ?_
            refine g3_0 C hw k hk (hF _ (by have := hk; omega)) K_f_X3_9 dX3_valueAt_86 ?_
            refine lv_iload_n hx hb dX3_valueAt_89 rfl (lv_at hl 2 rfl) ?_
            obtain ⟨hi2, h⟩ := h
            refine r_iald C hw (41 + 2 * k + 1) 299 (hF _ (by have := hk; omega)) (ce_lva hk) hi2 dX3_valueAt_90 ?_
            refine lv_goto (tgt := 95) hx hb dX3_valueAt_91 (by decide) ?_
            rw [hQ]
            exact ret_i C hr hlk hw h dX3_valueAt_95
      · have h := h.2 c4
        refine lv_aload_n hx hb dX3_valueAt_18 rfl (lv_at hl 1 rfl) ?_
        refine g4_0 C hw (hF 5 (by decide)) K_f_X3_28 dX3_valueAt_19 ?_
        refine lv_aload_n hx hb dX3_valueAt_22 rfl (lv_at hl 0 rfl) ?_
        refine g3_4 C hw k hk (hF _ (by have := hk; omega)) K_f_X3_25 dX3_valueAt_23 ?_
        obtain ⟨hi3, h⟩ := h
        refine r_iald C hw 6 299 (hF 6 (by decide)) rfl hi3 dX3_valueAt_26 ?_
        refine lv_topi (fun y1 ey1 => ?_)
        have h := h y1 ey1
        refine lv_istore_n (lv' := [(3, .int y1), (0, .ref (eA E ((41 + 2 * k)))), (1, .ref (eA E 5)), (2, .int p2)]) hx hb dX3_valueAt_27 rfl hl (by decide) rfl (fun ls hl => ?_)
        refine lv_aload_n hx hb dX3_valueAt_28 rfl (lv_at hl 1 rfl) ?_
        refine g3_0 C hw k hk (hF _ (by have := hk; omega)) K_f_X3_9 dX3_valueAt_29 ?_
        refine lv_aload_n hx hb dX3_valueAt_32 rfl (lv_at hl 1 rfl) ?_
        refine g3_4 C hw k hk (hF _ (by have := hk; omega)) K_f_X3_25 dX3_valueAt_33 ?_
        refine lv_iload_n hx hb dX3_valueAt_36 rfl (lv_at hl 0 rfl) ?_
        refine done_i hw (my_runS (As := [.int y1]) (rest := [.int (gI w (41 + 2 * k) 4), .ref (eA E ((41 + 2 * k + 1)))]) C hw (mt_J6_bitCount_0f7a4 l C.2.2.2.2.2.2.2 _ _ h) K_m_X3_33 K_s_J6_bitCount_0f7a4 K_n_J6 K_c_J6_bitCount_0f7a4 hy_J6_bitCount_0f7a4 ⟨Nat.le_of_ble_eq_true rfl, Nat.le_of_ble_eq_true rfl⟩ hl.1 rfl (Nat.le_of_ble_eq_true rfl) dX3_valueAt_37 ⟨Nat.zero_le _, Nat.zero_le _⟩) (fun r1 w1 H locs h hw => ?_)
        refine lv_aload_n hx hb dX3_valueAt_40 rfl (lv_at hl 1 rfl) ?_
        refine g3_1 C hw k hk (hF _ (by have := hk; omega)) K_f_X3_15 dX3_valueAt_41 ?_
        refine lv_icmp_le (tgt := 51) hx hb dX3_valueAt_44 (by decide) (fun c7 => ?_) (fun c7 => ?_)
        · have h := h.1 c7
          refine lv_aload_n hx hb dX3_valueAt_51 rfl (lv_at hl 1 rfl) ?_
          refine lv_aload_n hx hb dX3_valueAt_52 rfl (lv_at hl 2 rfl) ?_
          refine lv_iload_n hx hb dX3_valueAt_53 rfl (lv_at hl 0 rfl) ?_
          refine done_i hw (my_runV (As := [.ref (eA E 5), .int y1]) (rest := [.int (gI w (41 + 2 * k) 4), .ref (eA E ((41 + 2 * k + 1)))]) C hw (41 + 2 * k) 3 (hF _ (by have := hk; omega)) (ce_lv hk) rfl (mt_X3_valuesBehind l C.2.2.2.2.2.2.2 hF k hk _ _ h) K_m_X3_39 K_i_X3_valuesBehind K_v_X3_valuesBehind K_n_X3 K_c_X3_valuesBehind hy_X3_valuesBehind ⟨Nat.le_of_ble_eq_true rfl, Nat.le_of_ble_eq_true rfl⟩ hl.1 rfl (Nat.le_of_ble_eq_true rfl) dX3_valueAt_54 ⟨Nat.zero_le _, Nat.zero_le _⟩) (fun r2 w2 H locs h hw => ?_)
          refine done_i hw (my_runS (As := [.int r2]) (rest := [.int (gI w (41 + 2 * k) 4), .ref (eA E ((41 + 2 * k + 1)))]) C hw (mt_X3_firstMissing l C.2.2.2.2.2.2.2 hF _ _ h) K_m_X3_43 K_s_X3_firstMissing K_n_X3 K_c_X3_firstMissing hy_X3_firstMissing ⟨Nat.le_of_ble_eq_true rfl, Nat.le_of_ble_eq_true rfl⟩ hl.1 rfl (Nat.le_of_ble_eq_true rfl) dX3_valueAt_57 ⟨Nat.zero_le _, Nat.zero_le _⟩) (fun r3 w3 H locs h hw => ?_)
          obtain ⟨hi4, h⟩ := h
          refine r_iast C hw (41 + 2 * k + 1) 299 (hF _ (by have := hk; omega)) (fun _ => ce_lva hk) hi4 dX3_valueAt_60 (fun H locs hw => ?_)
          refine lv_aload_n hx hb dX3_valueAt_61 rfl (lv_at hl 1 rfl) ?_
          refine lv_dup hx hb dX3_valueAt_62 rfl ?_
          refine g3_4 C hw k hk (hF _ (by have := hk; omega)) K_f_X3_25 dX3_valueAt_63 ?_
          refine lv_iconst (v := 1) hx hb dX3_valueAt_66 (by decide) ?_
          refine lv_iadd hx hb dX3_valueAt_67 ?_
          refine lv_topi (fun y2 ey2 => ?_)
          have h := h y2 ey2
          refine p3_4 C hw k hk (hF _ (by have := hk; omega)) K_f_X3_25 dX3_valueAt_68 (fun H locs hw => ?_)
          refine lv_goto (tgt := 0) hx hb dX3_valueAt_71 (by decide) ?_
          exact h _ _ hw _ (lv_sub hl [1, 2, 3] rfl)
        · have h := h.2 c7
          refine lv_iconst (v := 0) hx hb dX3_valueAt_47 (by decide) ?_
          refine lv_goto (tgt := 60) hx hb dX3_valueAt_48 (by decide) ?_
          obtain ⟨hi5, h⟩ := h
          refine r_iast C hw (41 + 2 * k + 1) 299 (hF _ (by have := hk; omega)) (fun _ => ce_lva hk) hi5 dX3_valueAt_60 (fun H locs hw => ?_)
          refine lv_aload_n hx hb dX3_valueAt_61 rfl (lv_at hl 1 rfl) ?_
          refine lv_dup hx hb dX3_valueAt_62 rfl ?_
          refine g3_4 C hw k hk (hF _ (by have := hk; omega)) K_f_X3_25 dX3_valueAt_63 ?_
          refine lv_iconst (v := 1) hx hb dX3_valueAt_66 (by decide) ?_
          refine lv_iadd hx hb dX3_valueAt_67 ?_
          refine lv_topi (fun y3 ey3 => ?_)
          have h := h y3 ey3
          refine p3_4 C hw k hk (hF _ (by have := hk; omega)) K_f_X3_25 dX3_valueAt_68 (fun H locs hw => ?_)
          refine lv_goto (tgt := 0) hx hb dX3_valueAt_71 (by decide) ?_
          exact h _ _ hw _ (lv_sub hl [1, 2, 3] rfl)
  exact h _ _ hw _ (lv_sub hl [0, 1, 2] rfl)
theorem hy_X0_valueWith : yX0_valueWith.cls ≠ "java/lang/invoke/MethodHandle" ∧ yX0_valueWith.cls ≠ "java/lang/invoke/VarHandle" ∧ (parseMethodDescriptor yX0_valueWith.desc).map (fun d => d.parameters.length) = some 2 := by decide +kernel
def wp_X0_valueWith (w : Wd) (p1 : Int32) (p2 : Int32) (Post : Int32 → Wd → Prop) : Prop :=
  wp_X0_valuesOf w p1 (fun kr1 w1 => wp_X4_rankOf w1 p2 (fun r1 w2 => wp_X3_valueAt kr1 w2 r1 (fun r2 w3 => Post r2 w3)))
set_option maxHeartbeats 4000000 in
set_option maxRecDepth 100000 in
theorem mt_X0_valueWith (l : Launch) {E : En} (hI : Inj E) (hF : ∀ o, (o < 15 ∨ 27 ≤ o ∧ o < 157) → o ∈ eL E) (w : Wd) (p1 : Int32) (p2 : Int32) {Post : Int32 → Wd → Prop} (h : wp_X0_valueWith w p1 p2 Post) : MI l E yX0_valueWith cX0_valueWith 3 (some .int) 4 98 [.ref (eA E 3), .int p1, .int p2] w Post := by
  refine MG.intro hI (by decide +kernel) (Nat.le_of_ble_eq_true rfl) ?_
  intro p e s m args below meth c Q C hr hlk hQ hw ls hl
  have hx := C.1
  have hb := C.2.1
  have hl : lv_has ls 3 [(0, .ref (eA E 3)), (1, .int p1), (2, .int p2)] := hl
  unfold wp_X0_valueWith at h
  refine lv_aload_n hx hb dX0_valueWith_0 rfl (lv_at hl 0 rfl) ?_
  refine lv_iload_n hx hb dX0_valueWith_1 rfl (lv_at hl 1 rfl) ?_
  refine done_r hw (my_runV (As := [.int p1]) (rest := []) C hw 3 0 (hF 3 (by decide)) rfl rfl (mt_X0_valuesOf l C.2.2.2.2.2.2.2 hF _ _ h) K_m_X0_94 K_i_X0_valuesOf K_v_X0_valuesOf K_n_X0 K_c_X0_valuesOf hy_X0_valuesOf ⟨Nat.le_of_ble_eq_true rfl, Nat.le_of_ble_eq_true rfl⟩ hl.1 rfl (Nat.le_of_ble_eq_true rfl) dX0_valueWith_2 ⟨Nat.zero_le _, Nat.zero_le _⟩) (fun kr1 w1 H locs hkr1 h hw => ?_)
  refine lv_aload_n hx hb dX0_valueWith_5 rfl (lv_at hl 0 rfl) ?_
  refine g0_4 C hw (hF 3 (by decide)) K_f_X0_39 dX0_valueWith_6 ?_
  refine lv_iload_n hx hb dX0_valueWith_9 rfl (lv_at hl 2 rfl) ?_
  refine done_i hw (my_runS (As := [.int p2]) (rest := [.ref (eA E 5), .ref (eA E ((41 + 2 * kr1)))]) C hw (mt_X4_rankOf l C.2.2.2.2.2.2.2 _ _ h) K_m_X0_98 K_s_X4_rankOf K_n_X4 K_c_X4_rankOf hy_X4_rankOf ⟨Nat.le_of_ble_eq_true rfl, Nat.le_of_ble_eq_true rfl⟩ hl.1 rfl (Nat.le_of_ble_eq_true rfl) dX0_valueWith_10 ⟨Nat.zero_le _, Nat.zero_le _⟩) (fun r1 w2 H locs h hw => ?_)
  refine done_i hw (my_runV (As := [.ref (eA E 5), .int r1]) (rest := []) C hw (41 + 2 * kr1) 3 (hF _ (by have := hkr1; omega)) (ce_lv hkr1) rfl (mt_X3_valueAt l C.2.2.2.2.2.2.2 hF kr1 hkr1 _ _ h) K_m_X0_101 K_i_X3_valueAt K_v_X3_valueAt K_n_X3 K_c_X3_valueAt hy_X3_valueAt ⟨Nat.le_of_ble_eq_true rfl, Nat.le_of_ble_eq_true rfl⟩ hl.1 rfl (Nat.le_of_ble_eq_true rfl) dX0_valueWith_13 ⟨Nat.zero_le _, Nat.zero_le _⟩) (fun r2 w3 H locs h hw => ?_)
  rw [hQ]
  exact ret_i C hr hlk hw h dX0_valueWith_16
theorem hy_X0_valueNow : yX0_valueNow.cls ≠ "java/lang/invoke/MethodHandle" ∧ yX0_valueNow.cls ≠ "java/lang/invoke/VarHandle" ∧ (parseMethodDescriptor yX0_valueNow.desc).map (fun d => d.parameters.length) = some 1 := by decide +kernel
def wp_X0_valueNow (w : Wd) (p1 : Int32) (Post : Int32 → Wd → Prop) : Prop :=
  vp_in p1 6 ∧ (wp_X0_valueWith w p1 (gA w (53 + 8 * 0 + 1) p1.toNatClampNeg) (fun r1 w1 => Post r1 w1))
set_option maxHeartbeats 4000000 in
set_option maxRecDepth 100000 in
theorem mt_X0_valueNow (l : Launch) {E : En} (hI : Inj E) (hF : ∀ o, (o < 15 ∨ 27 ≤ o ∧ o < 157) → o ∈ eL E) (w : Wd) (p1 : Int32) {Post : Int32 → Wd → Prop} (h : wp_X0_valueNow w p1 Post) : MI l E yX0_valueNow cX0_valueNow 2 (some .int) 5 120 [.ref (eA E 3), .int p1] w Post := by
  refine MG.intro hI (by decide +kernel) (Nat.le_of_ble_eq_true rfl) ?_
  intro p e s m args below meth c Q C hr hlk hQ hw ls hl
  have hx := C.1
  have hb := C.2.1
  have hl : lv_has ls 2 [(0, .ref (eA E 3)), (1, .int p1)] := hl
  unfold wp_X0_valueNow at h
  refine lv_aload_n hx hb dX0_valueNow_0 rfl (lv_at hl 0 rfl) ?_
  refine lv_iload_n hx hb dX0_valueNow_1 rfl (lv_at hl 1 rfl) ?_
  refine lv_aload_n hx hb dX0_valueNow_2 rfl (lv_at hl 0 rfl) ?_
  refine g0_1 C hw (hF 3 (by decide)) K_f_X0_21 dX0_valueNow_3 ?_
  refine g7_0 C hw 0 (show 0 < 13 by decide) (hF _ (by have := (show 0 < 13 by decide); omega)) K_f_X0_72 dX0_valueNow_6 ?_
  refine lv_iload_n hx hb dX0_valueNow_9 rfl (lv_at hl 1 rfl) ?_
  obtain ⟨hi1, h⟩ := h
  refine r_iald C hw (53 + 8 * 0 + 1) 6 (hF _ (by have := (show 0 < 13 by decide); omega)) (ce_sta 1 (show 0 < 13 by decide) (by decide) (by decide)) hi1 dX0_valueNow_10 ?_
  refine done_i hw (my_runV (As := [.int p1, .int (gA w (53 + 8 * 0 + 1) p1.toNatClampNeg)]) (rest := []) C hw 3 0 (hF 3 (by decide)) rfl rfl (mt_X0_valueWith l C.2.2.2.2.2.2.2 hF _ _ _ h) K_m_X0_105 K_i_X0_valueWith K_v_X0_valueWith K_n_X0 K_c_X0_valueWith hy_X0_valueWith ⟨Nat.le_of_ble_eq_true rfl, Nat.le_of_ble_eq_true rfl⟩ hl.1 rfl (Nat.le_of_ble_eq_true rfl) dX0_valueNow_11 ⟨Nat.zero_le _, Nat.zero_le _⟩) (fun r1 w1 H locs h hw => ?_)
  rw [hQ]
  exact ret_i C hr hlk hw h dX0_valueNow_14
theorem hy_X3_isRightAt : yX3_isRightAt.cls ≠ "java/lang/invoke/MethodHandle" ∧ yX3_isRightAt.cls ≠ "java/lang/invoke/VarHandle" ∧ (parseMethodDescriptor yX3_isRightAt.desc).map (fun d => d.parameters.length) = some 2 := by decide +kernel
def wp_X3_isRightAt (k : Nat) (w : Wd) (p2 : Int32) (Post : Int32 → Wd → Prop) : Prop :=
  wp_X4_rankOf w p2 (fun r1 w1 => wp_X3_valueAt k w1 r1 (fun r2 w2 => wp_X3_valuesBehind k w2 p2 (fun r3 w3 => ∀ y1 : Int32, y1 = ((1 : Int32) <<< (r2 &&& 31)) - 1 → (wp_X8_hasBit w3 r3 r2 (fun r4 w4 => (r4 = 0 → (((r3 &&& y1) = y1 → (Post 1 w4)) ∧ (¬ (r3 &&& y1) = y1 → (Post 0 w4)))) ∧ (¬ r4 = 0 → (Post 0 w4)))))))
set_option maxHeartbeats 4000000 in
set_option maxRecDepth 100000 in
theorem mt_X3_isRightAt (l : Launch) {E : En} (hI : Inj E) (hF : ∀ o, (o < 15 ∨ 27 ≤ o ∧ o < 157) → o ∈ eL E) (k : Nat) (hk : k < 6) (w : Wd) (p2 : Int32) {Post : Int32 → Wd → Prop} (h : wp_X3_isRightAt k w p2 Post) : MI l E yX3_isRightAt cX3_isRightAt 6 (some .boolean) 4 98 [.ref (eA E ((41 + 2 * k))), .ref (eA E 5), .int p2] w Post := by
  refine MG.intro hI (by decide +kernel) (Nat.le_of_ble_eq_true rfl) ?_
  intro p e s m args below meth c Q C hr hlk hQ hw ls hl
  have hx := C.1
  have hb := C.2.1
  have hl : lv_has ls 6 [(0, .ref (eA E ((41 + 2 * k)))), (1, .ref (eA E 5)), (2, .int p2)] := hl
  unfold wp_X3_isRightAt at h
  refine lv_aload_n hx hb dX3_isRightAt_0 rfl (lv_at hl 0 rfl) ?_
  refine lv_aload_n hx hb dX3_isRightAt_1 rfl (lv_at hl 1 rfl) ?_
  refine lv_iload_n hx hb dX3_isRightAt_2 rfl (lv_at hl 2 rfl) ?_
  refine done_i hw (my_runS (As := [.int p2]) (rest := [.ref (eA E 5), .ref (eA E ((41 + 2 * k)))]) C hw (mt_X4_rankOf l C.2.2.2.2.2.2.2 _ _ h) K_m_X3_57 K_s_X4_rankOf K_n_X4 K_c_X4_rankOf hy_X4_rankOf ⟨Nat.le_of_ble_eq_true rfl, Nat.le_of_ble_eq_true rfl⟩ hl.1 rfl (Nat.le_of_ble_eq_true rfl) dX3_isRightAt_3 ⟨Nat.zero_le _, Nat.zero_le _⟩) (fun r1 w1 H locs h hw => ?_)
  refine done_i hw (my_runV (As := [.ref (eA E 5), .int r1]) (rest := []) C hw (41 + 2 * k) 3 (hF _ (by have := hk; omega)) (ce_lv hk) rfl (mt_X3_valueAt l C.2.2.2.2.2.2.2 hF k hk _ _ h) K_m_X3_60 K_i_X3_valueAt K_v_X3_valueAt K_n_X3 K_c_X3_valueAt hy_X3_valueAt ⟨Nat.le_of_ble_eq_true rfl, Nat.le_of_ble_eq_true rfl⟩ hl.1 rfl (Nat.le_of_ble_eq_true rfl) dX3_isRightAt_6 ⟨Nat.zero_le _, Nat.zero_le _⟩) (fun r2 w2 H locs h hw => ?_)
  refine lv_istore_n (lv' := [(3, .int r2), (0, .ref (eA E ((41 + 2 * k)))), (1, .ref (eA E 5)), (2, .int p2)]) hx hb dX3_isRightAt_9 rfl hl (by decide) rfl (fun ls hl => ?_)
  refine lv_aload_n hx hb dX3_isRightAt_10 rfl (lv_at hl 1 rfl) ?_
  refine lv_aload_n hx hb dX3_isRightAt_11 rfl (lv_at hl 2 rfl) ?_
  refine lv_iload_n hx hb dX3_isRightAt_12 rfl (lv_at hl 3 rfl) ?_
  refine done_i hw (my_runV (As := [.ref (eA E 5), .int p2]) (rest := []) C hw (41 + 2 * k) 3 (hF _ (by have := hk; omega)) (ce_lv hk) rfl (mt_X3_valuesBehind l C.2.2.2.2.2.2.2 hF k hk _ _ h) K_m_X3_39 K_i_X3_valuesBehind K_v_X3_valuesBehind K_n_X3 K_c_X3_valuesBehind hy_X3_valuesBehind ⟨Nat.le_of_ble_eq_true rfl, Nat.le_of_ble_eq_true rfl⟩ hl.1 rfl (Nat.le_of_ble_eq_true rfl) dX3_isRightAt_13 ⟨Nat.zero_le _, Nat.zero_le _⟩) (fun r3 w3 H locs h hw => ?_)
  refine lv_istore (lv' := [(4, .int r3), (3, .int r2), (0, .ref (eA E ((41 + 2 * k)))), (1, .ref (eA E 5)), (2, .int p2)]) hx hb dX3_isRightAt_16 hl (by decide) rfl (fun ls hl => ?_)
  refine lv_iconst (v := 1) hx hb dX3_isRightAt_18 (by decide) ?_
  refine lv_iload_n hx hb dX3_isRightAt_19 rfl (lv_at hl 1 rfl) ?_
  refine lv_ishl hx hb dX3_isRightAt_20 ?_
  refine lv_iconst (v := 1) hx hb dX3_isRightAt_21 (by decide) ?_
  refine lv_isub hx hb dX3_isRightAt_22 ?_
  refine lv_topi (fun y1 ey1 => ?_)
  have h := h y1 ey1
  refine lv_istore (lv' := [(5, .int y1), (4, .int r3), (3, .int r2), (0, .ref (eA E ((41 + 2 * k)))), (1, .ref (eA E 5)), (2, .int p2)]) hx hb dX3_isRightAt_23 hl (by decide) rfl (fun ls hl => ?_)
  refine lv_iload hx hb dX3_isRightAt_25 (lv_at hl 1 rfl) ?_
  refine lv_iload_n hx hb dX3_isRightAt_27 rfl (lv_at hl 2 rfl) ?_
  refine done_i hw (my_runSN (As := [.int r3, .int r2]) (rest := []) C hw (mt_X8_hasBit l C.2.2.2.2.2.2.2 _ _ _ h) nw_X3_53 K_s_X8_hasBit K_n_X8 K_c_X8_hasBit hy_X8_hasBit ⟨Nat.le_of_ble_eq_true rfl, Nat.le_of_ble_eq_true rfl⟩ hl.1 rfl (Nat.le_of_ble_eq_true rfl) dX3_isRightAt_28 ⟨Nat.zero_le _, Nat.zero_le _⟩) (fun r4 w4 H locs h hw => ?_)
  refine lv_if_ne (tgt := 48) hx hb dX3_isRightAt_31 (by decide) (fun c1 => ?_) (fun c1 => ?_)
  · have h := h.2 c1
    refine lv_iconst (v := 0) hx hb dX3_isRightAt_48 (by decide) ?_
    rw [hQ]
    exact ret_z C hr hlk hw h (by decide) dX3_isRightAt_49
  · have h := h.1 c1
    refine lv_iload hx hb dX3_isRightAt_34 (lv_at hl 1 rfl) ?_
    refine lv_iload hx hb dX3_isRightAt_36 (lv_at hl 0 rfl) ?_
    refine lv_iand hx hb dX3_isRightAt_38 ?_
    refine lv_iload hx hb dX3_isRightAt_39 (lv_at hl 0 rfl) ?_
    refine lv_icmp_ne (tgt := 48) hx hb dX3_isRightAt_41 (by decide) (fun c2 => ?_) (fun c2 => ?_)
    · have h := h.2 c2
      refine lv_iconst (v := 0) hx hb dX3_isRightAt_48 (by decide) ?_
      rw [hQ]
      exact ret_z C hr hlk hw h (by decide) dX3_isRightAt_49
    · have h := h.1 c2
      refine lv_iconst (v := 1) hx hb dX3_isRightAt_44 (by decide) ?_
      refine lv_goto (tgt := 49) hx hb dX3_isRightAt_45 (by decide) ?_
      rw [hQ]
      exact ret_z C hr hlk hw h (by decide) dX3_isRightAt_49
theorem hy_X0_hasRightValue : yX0_hasRightValue.cls ≠ "java/lang/invoke/MethodHandle" ∧ yX0_hasRightValue.cls ≠ "java/lang/invoke/VarHandle" ∧ (parseMethodDescriptor yX0_hasRightValue.desc).map (fun d => d.parameters.length) = some 1 := by decide +kernel
def wp_X0_hasRightValue (w : Wd) (p1 : Int32) (Post : Int32 → Wd → Prop) : Prop :=
  wp_X0_valuesOf w p1 (fun kr1 w1 => vp_in p1 6 ∧ (wp_X3_isRightAt kr1 w1 (gA w1 (53 + 8 * 0 + 1) p1.toNatClampNeg) (fun r1 w2 => (r1 = 0 ∨ r1 = 1) ∧ Post r1 w2)))
set_option maxHeartbeats 4000000 in
set_option maxRecDepth 100000 in
theorem mt_X0_hasRightValue (l : Launch) {E : En} (hI : Inj E) (hF : ∀ o, (o < 15 ∨ 27 ≤ o ∧ o < 157) → o ∈ eL E) (w : Wd) (p1 : Int32) {Post : Int32 → Wd → Prop} (h : wp_X0_hasRightValue w p1 Post) : MI l E yX0_hasRightValue cX0_hasRightValue 2 (some .boolean) 5 123 [.ref (eA E 3), .int p1] w Post := by
  refine MG.intro hI (by decide +kernel) (Nat.le_of_ble_eq_true rfl) ?_
  intro p e s m args below meth c Q C hr hlk hQ hw ls hl
  have hx := C.1
  have hb := C.2.1
  have hl : lv_has ls 2 [(0, .ref (eA E 3)), (1, .int p1)] := hl
  unfold wp_X0_hasRightValue at h
  refine lv_aload_n hx hb dX0_hasRightValue_0 rfl (lv_at hl 0 rfl) ?_
  refine lv_iload_n hx hb dX0_hasRightValue_1 rfl (lv_at hl 1 rfl) ?_
  refine done_r hw (my_runV (As := [.int p1]) (rest := []) C hw 3 0 (hF 3 (by decide)) rfl rfl (mt_X0_valuesOf l C.2.2.2.2.2.2.2 hF _ _ h) K_m_X0_94 K_i_X0_valuesOf K_v_X0_valuesOf K_n_X0 K_c_X0_valuesOf hy_X0_valuesOf ⟨Nat.le_of_ble_eq_true rfl, Nat.le_of_ble_eq_true rfl⟩ hl.1 rfl (Nat.le_of_ble_eq_true rfl) dX0_hasRightValue_2 ⟨Nat.zero_le _, Nat.zero_le _⟩) (fun kr1 w1 H locs hkr1 h hw => ?_)
  refine lv_aload_n hx hb dX0_hasRightValue_5 rfl (lv_at hl 0 rfl) ?_
  refine g0_4 C hw (hF 3 (by decide)) K_f_X0_39 dX0_hasRightValue_6 ?_
  refine lv_aload_n hx hb dX0_hasRightValue_9 rfl (lv_at hl 0 rfl) ?_
  refine g0_1 C hw (hF 3 (by decide)) K_f_X0_21 dX0_hasRightValue_10 ?_
  refine g7_0 C hw 0 (show 0 < 13 by decide) (hF _ (by have := (show 0 < 13 by decide); omega)) K_f_X0_72 dX0_hasRightValue_13 ?_
  refine lv_iload_n hx hb dX0_hasRightValue_16 rfl (lv_at hl 1 rfl) ?_
  obtain ⟨hi1, h⟩ := h
  refine r_iald C hw (53 + 8 * 0 + 1) 6 (hF _ (by have := (show 0 < 13 by decide); omega)) (ce_sta 1 (show 0 < 13 by decide) (by decide) (by decide)) hi1 dX0_hasRightValue_17 ?_
  refine done_i hw (my_runV (As := [.ref (eA E 5), .int (gA w1 (53 + 8 * 0 + 1) p1.toNatClampNeg)]) (rest := []) C hw (41 + 2 * kr1) 3 (hF _ (by have := hkr1; omega)) (ce_lv hkr1) rfl (mt_X3_isRightAt l C.2.2.2.2.2.2.2 hF kr1 hkr1 _ _ h) K_m_X0_109 K_i_X3_isRightAt K_v_X3_isRightAt K_n_X3 K_c_X3_isRightAt hy_X3_isRightAt ⟨Nat.le_of_ble_eq_true rfl, Nat.le_of_ble_eq_true rfl⟩ hl.1 rfl (Nat.le_of_ble_eq_true rfl) dX0_hasRightValue_18 ⟨Nat.zero_le _, Nat.zero_le _⟩) (fun r1 w2 H locs h hw => ?_)
  rw [hQ]
  exact ret_z C hr hlk hw h.2 h.1 dX0_hasRightValue_21
theorem hy_X0_sumNow : yX0_sumNow.cls ≠ "java/lang/invoke/MethodHandle" ∧ yX0_sumNow.cls ≠ "java/lang/invoke/VarHandle" ∧ (parseMethodDescriptor yX0_sumNow.desc).map (fun d => d.parameters.length) = some 0 := by decide +kernel
def wp_X0_sumNow (w : Wd) (Post : Int32 → Wd → Prop) : Prop :=
  ∀ J4 : Int32 → Int32 → Wd → Prop, (∀ (x1 : Int32) (x2 : Int32) (w : Wd), (((gI w (27 + 7 * 1) 6) ≤ x2 → (Post x1 w)) ∧ (¬ (gI w (27 + 7 * 1) 6) ≤ x2 → (vp_in x2 6 ∧ (wp_X0_valueWith w x2 (gA w (53 + 8 * 0 + 1) x2.toNatClampNeg) (fun r1 w1 => ∀ y1 : Int32, y1 = x1 ^^^ r1 → (∀ y2 : Int32, y2 = x2 + 1 → (J4 y1 y2 w1))))))) → J4 x1 x2 w) →
  J4 0 0 w
set_option maxHeartbeats 4000000 in
set_option maxRecDepth 100000 in
theorem mt_X0_sumNow (l : Launch) {E : En} (hI : Inj E) (hF : ∀ o, (o < 15 ∨ 27 ≤ o ∧ o < 157) → o ∈ eL E) (w : Wd) {Post : Int32 → Wd → Prop} (h : wp_X0_sumNow w Post) : MI l E yX0_sumNow cX0_sumNow 3 (some .int) 5 120 [.ref (eA E 3)] w Post := by
  refine MG.intro hI (by decide +kernel) (Nat.le_of_ble_eq_true rfl) ?_
  intro p e s m args below meth c Q C hr hlk hQ hw ls hl
  have hx := C.1
  have hb := C.2.1
  have hl : lv_has ls 3 [(0, .ref (eA E 3))] := hl
  unfold wp_X0_sumNow at h
  have h := h (fun x1 x2 w => Jp E p l e (Rm 5 120) s m args below meth c Q 3 4 [(0, .ref (eA E 3)), (1, .int x1), (2, .int x2)] w)
  have h := h ?_
  rotate_left
  · intro x1 x2 w h H locs hw ls hl
    refine lv_iload_n hx hb dX0_sumNow_4 rfl (lv_at hl 2 rfl) ?_
    refine lv_aload_n hx hb dX0_sumNow_5 rfl (lv_at hl 0 rfl) ?_
    refine g0_0 C hw (hF 3 (by decide)) K_f_X0_12 dX0_sumNow_6 ?_
    refine g6_6 C hw 1 (show 1 < 2 by decide) (hF _ (by have := (show 1 < 2 by decide); omega)) K_f_X0_57 dX0_sumNow_9 ?_
    refine lv_icmp_ge (tgt := 38) hx hb dX0_sumNow_12 (by decide) (fun c1 => ?_) (fun c1 => ?_)
    · have h := h.1 c1
      refine lv_iload_n hx hb dX0_sumNow_38 rfl (lv_at hl 1 rfl) ?_
      rw [hQ]
      exact ret_i C hr hlk hw h dX0_sumNow_39
    · have h := h.2 c1
      refine lv_iload_n hx hb dX0_sumNow_15 rfl (lv_at hl 1 rfl) ?_
      refine lv_aload_n hx hb dX0_sumNow_16 rfl (lv_at hl 0 rfl) ?_
      refine lv_iload_n hx hb dX0_sumNow_17 rfl (lv_at hl 2 rfl) ?_
      refine lv_aload_n hx hb dX0_sumNow_18 rfl (lv_at hl 0 rfl) ?_
      refine g0_1 C hw (hF 3 (by decide)) K_f_X0_21 dX0_sumNow_19 ?_
      refine g7_0 C hw 0 (show 0 < 13 by decide) (hF _ (by have := (show 0 < 13 by decide); omega)) K_f_X0_72 dX0_sumNow_22 ?_
      refine lv_iload_n hx hb dX0_sumNow_25 rfl (lv_at hl 2 rfl) ?_
      obtain ⟨hi1, h⟩ := h
      refine r_iald C hw (53 + 8 * 0 + 1) 6 (hF _ (by have := (show 0 < 13 by decide); omega)) (ce_sta 1 (show 0 < 13 by decide) (by decide) (by decide)) hi1 dX0_sumNow_26 ?_
      refine done_i hw (my_runV (As := [.int x2, .int (gA w (53 + 8 * 0 + 1) x2.toNatClampNeg)]) (rest := [.int x1]) C hw 3 0 (hF 3 (by decide)) rfl rfl (mt_X0_valueWith l C.2.2.2.2.2.2.2 hF _ _ _ h) K_m_X0_105 K_i_X0_valueWith K_v_X0_valueWith K_n_X0 K_c_X0_valueWith hy_X0_valueWith ⟨Nat.le_of_ble_eq_true rfl, Nat.le_of_ble_eq_true rfl⟩ hl.1 rfl (Nat.le_of_ble_eq_true rfl) dX0_sumNow_27 ⟨Nat.zero_le _, Nat.zero_le _⟩) (fun r1 w1 H locs h hw => ?_)
      refine lv_ixor hx hb dX0_sumNow_30 ?_
      refine lv_topi (fun y1 ey1 => ?_)
      have h := h y1 ey1
      refine lv_istore_n (lv' := [(1, .int y1), (0, .ref (eA E 3)), (2, .int x2)]) hx hb dX0_sumNow_31 rfl hl (by decide) rfl (fun ls hl => ?_)
      obtain ⟨y2, ey2⟩ : ∃ y : Int32, y = x2 + 1 := ⟨_, rfl⟩
      have h := h y2 ey2
      refine lv_iinc (v := y2) (lv' := [(2, .int y2), (1, .int y1), (0, .ref (eA E 3))]) hx hb dX0_sumNow_32 hl (k := 2) rfl (by rw [ey2]; first | rfl | decide) (by decide) rfl (fun ls hl => ?_)
      refine lv_goto (tgt := 4) hx hb dX0_sumNow_35 (by decide) ?_
      exact h _ _ hw _ (lv_sub hl [2, 1, 0] rfl)
  refine lv_iconst (v := 0) hx hb dX0_sumNow_0 (by decide) ?_
  refine lv_istore_n (lv' := [(1, .int 0), (0, .ref (eA E 3))]) hx hb dX0_sumNow_1 rfl hl (by decide) rfl (fun ls hl => ?_)
  refine lv_iconst (v := 0) hx hb dX0_sumNow_2 (by decide) ?_
  refine lv_istore_n (lv' := [(2, .int 0), (1, .int 0), (0, .ref (eA E 3))]) hx hb dX0_sumNow_3 rfl hl (by decide) rfl (fun ls hl => ?_)
  exact h _ _ hw _ (lv_sub hl [2, 1, 0] rfl)
theorem hy_X5_explore : yX5_explore.cls ≠ "java/lang/invoke/MethodHandle" ∧ yX5_explore.cls ≠ "java/lang/invoke/VarHandle" ∧ (parseMethodDescriptor yX5_explore.desc).map (fun d => d.parameters.length) = some 4 := by decide +kernel
def wp_X5_explore (w : Wd) (p2 : Int32) (p3 : Int32) (p4 : Int32) (Post : Wd → Prop) : Prop :=
  ∀ J26 : Int32 → Wd → Prop, ∀ J60 : Int32 → Int32 → Int32 → Wd → Prop, (∀ (x6 : Int32) (w : Wd), ((x6 < 0 → (Post w)) ∧ (¬ x6 < 0 → (vp_in x6 299 ∧ (((gA w 9 x6.toNatClampNeg) ≤ 0 → (∀ y1 : Int32, y1 = x6 + (-1) → (J26 y1 w))) ∧ (¬ (gA w 9 x6.toNatClampNeg) ≤ 0 → (vp_in x6 299 ∧ (wp_X4_listBehind w (gA w 6 x6.toNatClampNeg) p3 p4 (fun r2 w3 => J60 x6 r2 0 w3)))))))) → J26 x6 w) →
  (∀ (x6 : Int32) (x7 : Int32) (x8 : Int32) (w : Wd), ((x7 ≤ x8 → (∀ y2 : Int32, y2 = x6 + (-1) → (J26 y2 w))) ∧ (¬ x7 ≤ x8 → (vp_in x8 12 ∧ (∀ y3 : Int32, y3 = gA w 7 x8.toNatClampNeg → (vp_in y3 299 ∧ (vp_in x6 299 ∧ (∀ y4 : Int32, y4 = (if (gA w 9 y3.toNatClampNeg) < ((gA w 9 x6.toNatClampNeg) + 1) then ((gA w 9 x6.toNatClampNeg) + 1) else (gA w 9 y3.toNatClampNeg)) → (vp_in y3 299 ∧ (∀ y5 : Int32, y5 = x8 + 1 → (J60 x6 x7 y5 (sA w 9 y3.toNatClampNeg y4))))))))))) → J60 x6 x7 x8 w) →
  wp_J7_fill_53178 9 299 w 0 (fun w1 => wp_X4_rankOf w1 p2 (fun r1 w2 => vp_in r1 299 ∧ (J26 r1 (sA w2 9 r1.toNatClampNeg 1))))
set_option maxHeartbeats 4000000 in
set_option maxRecDepth 100000 in
theorem mt_X5_explore (l : Launch) {E : En} (hI : Inj E) (hF : ∀ o, (o < 15 ∨ 27 ≤ o ∧ o < 157) → o ∈ eL E) (w : Wd) (p2 : Int32) (p3 : Int32) (p4 : Int32) {Post : Wd → Prop} (h : wp_X5_explore w p2 p3 p4 Post) : MV l E yX5_explore cX5_explore 10 none 2 50 [.ref (eA E 8), .ref (eA E 5), .int p2, .int p3, .int p4] w Post := by
  refine MG.intro hI (by decide +kernel) (Nat.le_of_ble_eq_true rfl) ?_
  intro p e s m args below meth c Q C hr hlk hQ hw ls hl
  have hx := C.1
  have hb := C.2.1
  have hl : lv_has ls 10 [(0, .ref (eA E 8)), (1, .ref (eA E 5)), (2, .int p2), (3, .int p3), (4, .int p4)] := hl
  unfold wp_X5_explore at h
  have h := h (fun x6 w => Jp E p l e (Rm 2 50) s m args below meth c Q 10 26 [(0, .ref (eA E 8)), (1, .ref (eA E 5)), (3, .int p3), (4, .int p4), (6, .int x6)] w)
  have h := h (fun x6 x7 x8 w => Jp E p l e (Rm 2 50) s m args below meth c Q 10 60 [(0, .ref (eA E 8)), (1, .ref (eA E 5)), (3, .int p3), (4, .int p4), (6, .int x6), (7, .int x7), (8, .int x8)] w)
  have h := h ?_
  rotate_left
  · intro x6 w h H locs hw ls hl
    refine lv_iload hx hb dX5_explore_26 (lv_at hl 4 rfl) ?_
    refine lv_if_lt (tgt := 114) hx hb dX5_explore_28 (by decide) (fun c1 => ?_) (fun c1 => ?_)
    · have h := h.1 c1
      rw [hQ]
      exact ret_v C hr hlk hw h dX5_explore_114
    · have h := h.2 c1
      refine lv_aload_n hx hb dX5_explore_31 rfl (lv_at hl 0 rfl) ?_
      refine g5_0 C hw (hF 8 (by decide)) K_f_X5_9 dX5_explore_32 ?_
      refine lv_iload hx hb dX5_explore_35 (lv_at hl 4 rfl) ?_
      obtain ⟨hi2, h⟩ := h
      refine r_iald C hw 9 299 (hF 9 (by decide)) rfl hi2 dX5_explore_37 ?_
      refine lv_if_le (tgt := 108) hx hb dX5_explore_38 (by decide) (fun c2 => ?_) (fun c2 => ?_)
      · have h := h.1 c2
        obtain ⟨y1, ey1⟩ : ∃ y : Int32, y = x6 + (-1) := ⟨_, rfl⟩
        have h := h y1 ey1
        refine lv_iinc (v := y1) (lv' := [(6, .int y1), (0, .ref (eA E 8)), (1, .ref (eA E 5)), (3, .int p3), (4, .int p4)]) hx hb dX5_explore_108 hl (k := 4) rfl (by rw [ey1]; first | rfl | decide) (by decide) rfl (fun ls hl => ?_)
        refine lv_goto (tgt := 26) hx hb dX5_explore_111 (by decide) ?_
        exact h _ _ hw _ (lv_sub hl [1, 2, 3, 4, 0] rfl)
      · have h := h.2 c2
        refine lv_aload_n hx hb dX5_explore_41 rfl (lv_at hl 1 rfl) ?_
        refine lv_aload_n hx hb dX5_explore_42 rfl (lv_at hl 1 rfl) ?_
        refine g4_0 C hw (hF 5 (by decide)) K_f_X5_27 dX5_explore_43 ?_
        refine lv_iload hx hb dX5_explore_46 (lv_at hl 4 rfl) ?_
        obtain ⟨hi3, h⟩ := h
        refine r_iald C hw 6 299 (hF 6 (by decide)) rfl hi3 dX5_explore_48 ?_
        refine lv_iload_n hx hb dX5_explore_49 rfl (lv_at hl 2 rfl) ?_
        refine lv_iload hx hb dX5_explore_50 (lv_at hl 3 rfl) ?_
        refine done_i hw (my_runV (As := [.int (gA w 6 x6.toNatClampNeg), .int p3, .int p4]) (rest := []) C hw 5 4 (hF 5 (by decide)) rfl rfl (mt_X4_listBehind l C.2.2.2.2.2.2.2 hF _ _ _ _ h) K_m_X5_30 K_i_X4_listBehind K_v_X4_listBehind K_n_X4 K_c_X4_listBehind hy_X4_listBehind ⟨Nat.le_of_ble_eq_true rfl, Nat.le_of_ble_eq_true rfl⟩ hl.1 rfl (Nat.le_of_ble_eq_true rfl) dX5_explore_52 ⟨Nat.zero_le _, Nat.zero_le _⟩) (fun r2 w3 H locs h hw => ?_)
        refine lv_istore (lv' := [(7, .int r2), (0, .ref (eA E 8)), (1, .ref (eA E 5)), (3, .int p3), (4, .int p4), (6, .int x6)]) hx hb dX5_explore_55 hl (by decide) rfl (fun ls hl => ?_)
        refine lv_iconst (v := 0) hx hb dX5_explore_57 (by decide) ?_
        refine lv_istore (lv' := [(8, .int 0), (7, .int r2), (0, .ref (eA E 8)), (1, .ref (eA E 5)), (3, .int p3), (4, .int p4), (6, .int x6)]) hx hb dX5_explore_58 hl (by decide) rfl (fun ls hl => ?_)
        exact h _ _ hw _ (lv_sub hl [2, 3, 4, 5, 6, 1, 0] rfl)
  have h := h ?_
  rotate_left
  · intro x6 x7 x8 w h H locs hw ls hl
    refine lv_iload hx hb dX5_explore_60 (lv_at hl 6 rfl) ?_
    refine lv_iload hx hb dX5_explore_62 (lv_at hl 5 rfl) ?_
    refine lv_icmp_ge (tgt := 108) hx hb dX5_explore_64 (by decide) (fun c3 => ?_) (fun c3 => ?_)
    · have h := h.1 c3
      obtain ⟨y2, ey2⟩ : ∃ y : Int32, y = x6 + (-1) := ⟨_, rfl⟩
      have h := h y2 ey2
      refine lv_iinc (v := y2) (lv' := [(6, .int y2), (0, .ref (eA E 8)), (1, .ref (eA E 5)), (3, .int p3), (4, .int p4), (7, .int x7), (8, .int x8)]) hx hb dX5_explore_108 hl (k := 4) rfl (by rw [ey2]; first | rfl | decide) (by decide) rfl (fun ls hl => ?_)
      refine lv_goto (tgt := 26) hx hb dX5_explore_111 (by decide) ?_
      exact h _ _ hw _ (lv_sub hl [1, 2, 3, 4, 0] rfl)
    · have h := h.2 c3
      refine lv_aload_n hx hb dX5_explore_67 rfl (lv_at hl 1 rfl) ?_
      refine g4_1 C hw (hF 5 (by decide)) K_f_X5_34 dX5_explore_68 ?_
      refine lv_iload hx hb dX5_explore_71 (lv_at hl 6 rfl) ?_
      obtain ⟨hi4, h⟩ := h
      refine r_iald C hw 7 12 (hF 7 (by decide)) rfl hi4 dX5_explore_73 ?_
      refine lv_topi (fun y3 ey3 => ?_)
      have h := h y3 ey3
      refine lv_istore (lv' := [(9, .int y3), (0, .ref (eA E 8)), (1, .ref (eA E 5)), (3, .int p3), (4, .int p4), (6, .int x6), (7, .int x7), (8, .int x8)]) hx hb dX5_explore_74 hl (by decide) rfl (fun ls hl => ?_)
      refine lv_aload_n hx hb dX5_explore_76 rfl (lv_at hl 1 rfl) ?_
      refine g5_0 C hw (hF 8 (by decide)) K_f_X5_9 dX5_explore_77 ?_
      refine lv_iload hx hb dX5_explore_80 (lv_at hl 0 rfl) ?_
      refine lv_aload_n hx hb dX5_explore_82 rfl (lv_at hl 1 rfl) ?_
      refine g5_0 C hw (hF 8 (by decide)) K_f_X5_9 dX5_explore_83 ?_
      refine lv_iload hx hb dX5_explore_86 (lv_at hl 0 rfl) ?_
      obtain ⟨hi5, h⟩ := h
      refine r_iald C hw 9 299 (hF 9 (by decide)) rfl hi5 dX5_explore_88 ?_
      refine lv_aload_n hx hb dX5_explore_89 rfl (lv_at hl 1 rfl) ?_
      refine g5_0 C hw (hF 8 (by decide)) K_f_X5_9 dX5_explore_90 ?_
      refine lv_iload hx hb dX5_explore_93 (lv_at hl 5 rfl) ?_
      obtain ⟨hi6, h⟩ := h
      refine r_iald C hw 9 299 (hF 9 (by decide)) rfl hi6 dX5_explore_95 ?_
      refine lv_iconst (v := 1) hx hb dX5_explore_96 (by decide) ?_
      refine lv_iadd hx hb dX5_explore_97 ?_
      refine r_max C hl.1 K_m_X5_37 ⟨Nat.le_of_ble_eq_true rfl, Nat.le_of_ble_eq_true rfl⟩ ⟨Nat.zero_le _, Nat.zero_le _⟩ dX5_explore_98 ?_
      refine lv_topi (fun y4 ey4 => ?_)
      have h := h y4 ey4
      obtain ⟨hi7, h⟩ := h
      refine r_iast C hw 9 299 (hF 9 (by decide)) (fun _ => rfl) hi7 dX5_explore_101 (fun H locs hw => ?_)
      obtain ⟨y5, ey5⟩ : ∃ y : Int32, y = x8 + 1 := ⟨_, rfl⟩
      have h := h y5 ey5
      refine lv_iinc (v := y5) (lv' := [(8, .int y5), (9, .int y3), (0, .ref (eA E 8)), (1, .ref (eA E 5)), (3, .int p3), (4, .int p4), (6, .int x6), (7, .int x7)]) hx hb dX5_explore_102 hl (k := 7) rfl (by rw [ey5]; first | rfl | decide) (by decide) rfl (fun ls hl => ?_)
      refine lv_goto (tgt := 60) hx hb dX5_explore_105 (by decide) ?_
      exact h _ _ hw _ (lv_sub hl [2, 3, 4, 5, 6, 7, 0] rfl)
  refine lv_aload_n hx hb dX5_explore_0 rfl (lv_at hl 0 rfl) ?_
  refine g5_0 C hw (hF 8 (by decide)) K_f_X5_9 dX5_explore_1 ?_
  refine lv_iconst (v := 0) hx hb dX5_explore_4 (by decide) ?_
  refine done_v hw (my_runS (As := [.ref (eA E 9), .int 0]) (rest := []) C hw (mt_J7_fill_53178 l C.2.2.2.2.2.2.2 9 299 (hF 9 (by decide)) (fun _ => rfl) _ _ h) K_m_X5_15 K_s_J7_fill_53178 K_n_J7 K_c_J7_fill_53178 hy_J7_fill_53178 ⟨Nat.le_of_ble_eq_true rfl, Nat.le_of_ble_eq_true rfl⟩ hl.1 rfl (Nat.le_of_ble_eq_true rfl) dX5_explore_5 ⟨Nat.zero_le _, Nat.zero_le _⟩) (fun w1 H locs h hw => ?_)
  refine lv_iload_n hx hb dX5_explore_8 rfl (lv_at hl 2 rfl) ?_
  refine done_i hw (my_runS (As := [.int p2]) (rest := []) C hw (mt_X4_rankOf l C.2.2.2.2.2.2.2 _ _ h) K_m_X5_21 K_s_X4_rankOf K_n_X4 K_c_X4_rankOf hy_X4_rankOf ⟨Nat.le_of_ble_eq_true rfl, Nat.le_of_ble_eq_true rfl⟩ hl.1 rfl (Nat.le_of_ble_eq_true rfl) dX5_explore_9 ⟨Nat.zero_le _, Nat.zero_le _⟩) (fun r1 w2 H locs h hw => ?_)
  refine lv_istore (lv' := [(5, .int r1), (0, .ref (eA E 8)), (1, .ref (eA E 5)), (2, .int p2), (3, .int p3), (4, .int p4)]) hx hb dX5_explore_12 hl (by decide) rfl (fun ls hl => ?_)
  refine lv_aload_n hx hb dX5_explore_14 rfl (lv_at hl 1 rfl) ?_
  refine g5_0 C hw (hF 8 (by decide)) K_f_X5_9 dX5_explore_15 ?_
  refine lv_iload hx hb dX5_explore_18 (lv_at hl 0 rfl) ?_
  refine lv_iconst (v := 1) hx hb dX5_explore_20 (by decide) ?_
  obtain ⟨hi1, h⟩ := h
  refine r_iast C hw 9 299 (hF 9 (by decide)) (fun _ => rfl) hi1 dX5_explore_21 (fun H locs hw => ?_)
  refine lv_iload hx hb dX5_explore_22 (lv_at hl 0 rfl) ?_
  refine lv_istore (lv' := [(6, .int r1), (5, .int r1), (0, .ref (eA E 8)), (1, .ref (eA E 5)), (2, .int p2), (3, .int p3), (4, .int p4)]) hx hb dX5_explore_24 hl (by decide) rfl (fun ls hl => ?_)
  exact h _ _ hw _ (lv_sub hl [2, 3, 5, 6, 0] rfl)
theorem hy_X0_explore : yX0_explore.cls ≠ "java/lang/invoke/MethodHandle" ∧ yX0_explore.cls ≠ "java/lang/invoke/VarHandle" ∧ (parseMethodDescriptor yX0_explore.desc).map (fun d => d.parameters.length) = some 1 := by decide +kernel
def wp_X0_explore (w : Wd) (p1 : Int32) (Post : Wd → Prop) : Prop :=
  vp_in p1 6 ∧ (vp_in p1 6 ∧ (vp_in p1 6 ∧ (wp_X5_explore w (gA w (53 + 8 * 0 + 1) p1.toNatClampNeg) (gA w (27 + 7 * 1 + 3) p1.toNatClampNeg) (gA w (53 + 8 * 0 + 2) p1.toNatClampNeg) (fun w1 => Post w1))))
set_option maxHeartbeats 4000000 in
set_option maxRecDepth 100000 in
theorem mt_X0_explore (l : Launch) {E : En} (hI : Inj E) (hF : ∀ o, (o < 15 ∨ 27 ≤ o ∧ o < 157) → o ∈ eL E) (w : Wd) (p1 : Int32) {Post : Wd → Prop} (h : wp_X0_explore w p1 Post) : MV l E yX0_explore cX0_explore 2 none 3 79 [.ref (eA E 3), .int p1] w Post := by
  refine MG.intro hI (by decide +kernel) (Nat.le_of_ble_eq_true rfl) ?_
  intro p e s m args below meth c Q C hr hlk hQ hw ls hl
  have hx := C.1
  have hb := C.2.1
  have hl : lv_has ls 2 [(0, .ref (eA E 3)), (1, .int p1)] := hl
  unfold wp_X0_explore at h
  refine lv_aload_n hx hb dX0_explore_0 rfl (lv_at hl 0 rfl) ?_
  refine g0_2 C hw (hF 3 (by decide)) K_f_X0_28 dX0_explore_1 ?_
  refine lv_aload_n hx hb dX0_explore_4 rfl (lv_at hl 0 rfl) ?_
  refine g0_4 C hw (hF 3 (by decide)) K_f_X0_39 dX0_explore_5 ?_
  refine lv_aload_n hx hb dX0_explore_8 rfl (lv_at hl 0 rfl) ?_
  refine g0_1 C hw (hF 3 (by decide)) K_f_X0_21 dX0_explore_9 ?_
  refine g7_0 C hw 0 (show 0 < 13 by decide) (hF _ (by have := (show 0 < 13 by decide); omega)) K_f_X0_72 dX0_explore_12 ?_
  refine lv_iload_n hx hb dX0_explore_15 rfl (lv_at hl 1 rfl) ?_
  obtain ⟨hi1, h⟩ := h
  refine r_iald C hw (53 + 8 * 0 + 1) 6 (hF _ (by have := (show 0 < 13 by decide); omega)) (ce_sta 1 (show 0 < 13 by decide) (by decide) (by decide)) hi1 dX0_explore_16 ?_
  refine lv_aload_n hx hb dX0_explore_17 rfl (lv_at hl 0 rfl) ?_
  refine g0_0 C hw (hF 3 (by decide)) K_f_X0_12 dX0_explore_18 ?_
  refine g6_2 C hw 1 (show 1 < 2 by decide) (hF _ (by have := (show 1 < 2 by decide); omega)) K_f_X0_65 dX0_explore_21 ?_
  refine lv_iload_n hx hb dX0_explore_24 rfl (lv_at hl 1 rfl) ?_
  obtain ⟨hi2, h⟩ := h
  refine r_iald C hw (27 + 7 * 1 + 3) 6 (hF _ (by have := (show 1 < 2 by decide); omega)) (ce_sea 3 (show 1 < 2 by decide) (by decide) (by decide)) hi2 dX0_explore_25 ?_
  refine lv_aload_n hx hb dX0_explore_26 rfl (lv_at hl 0 rfl) ?_
  refine g0_1 C hw (hF 3 (by decide)) K_f_X0_21 dX0_explore_27 ?_
  refine g7_1 C hw 0 (show 0 < 13 by decide) (hF _ (by have := (show 0 < 13 by decide); omega)) K_f_X0_75 dX0_explore_30 ?_
  refine lv_iload_n hx hb dX0_explore_33 rfl (lv_at hl 1 rfl) ?_
  obtain ⟨hi3, h⟩ := h
  refine r_iald C hw (53 + 8 * 0 + 2) 6 (hF _ (by have := (show 0 < 13 by decide); omega)) (ce_sta 2 (show 0 < 13 by decide) (by decide) (by decide)) hi3 dX0_explore_34 ?_
  refine done_v hw (my_runV (As := [.ref (eA E 5), .int (gA w (53 + 8 * 0 + 1) p1.toNatClampNeg), .int (gA w (27 + 7 * 1 + 3) p1.toNatClampNeg), .int (gA w (53 + 8 * 0 + 2) p1.toNatClampNeg)]) (rest := []) C hw 8 5 (hF 8 (by decide)) rfl rfl (mt_X5_explore l C.2.2.2.2.2.2.2 hF _ _ _ _ h) K_m_X0_113 K_i_X5_explore K_v_X5_explore K_n_X5 K_c_X5_explore hy_X5_explore ⟨Nat.le_of_ble_eq_true rfl, Nat.le_of_ble_eq_true rfl⟩ hl.1 rfl (Nat.le_of_ble_eq_true rfl) dX0_explore_35 ⟨Nat.zero_le _, Nat.zero_le _⟩) (fun w1 H locs h hw => ?_)
  rw [hQ]
  exact ret_v C hr hlk hw h dX0_explore_38
theorem hy_X5_hasReached : yX5_hasReached.cls ≠ "java/lang/invoke/MethodHandle" ∧ yX5_hasReached.cls ≠ "java/lang/invoke/VarHandle" ∧ (parseMethodDescriptor yX5_hasReached.desc).map (fun d => d.parameters.length) = some 1 := by decide +kernel
def wp_X5_hasReached (w : Wd) (p1 : Int32) (Post : Int32 → Wd → Prop) : Prop :=
  vp_in p1 299 ∧ (((gA w 9 p1.toNatClampNeg) ≤ 0 → (Post 0 w)) ∧ (¬ (gA w 9 p1.toNatClampNeg) ≤ 0 → (Post 1 w)))
set_option maxHeartbeats 4000000 in
set_option maxRecDepth 100000 in
theorem mt_X5_hasReached (l : Launch) {E : En} (hI : Inj E) (hF : ∀ o, (o < 15 ∨ 27 ≤ o ∧ o < 157) → o ∈ eL E) (w : Wd) (p1 : Int32) {Post : Int32 → Wd → Prop} (h : wp_X5_hasReached w p1 Post) : MI l E yX5_hasReached cX5_hasReached 2 (some .boolean) 0 0 [.ref (eA E 8), .int p1] w Post := by
  refine MG.intro hI (by decide +kernel) (Nat.le_of_ble_eq_true rfl) ?_
  intro p e s m args below meth c Q C hr hlk hQ hw ls hl
  have hx := C.1
  have hb := C.2.1
  have hl : lv_has ls 2 [(0, .ref (eA E 8)), (1, .int p1)] := hl
  unfold wp_X5_hasReached at h
  refine lv_aload_n hx hb dX5_hasReached_0 rfl (lv_at hl 0 rfl) ?_
  refine g5_0 C hw (hF 8 (by decide)) K_f_X5_9 dX5_hasReached_1 ?_
  refine lv_iload_n hx hb dX5_hasReached_4 rfl (lv_at hl 1 rfl) ?_
  obtain ⟨hi1, h⟩ := h
  refine r_iald C hw 9 299 (hF 9 (by decide)) rfl hi1 dX5_hasReached_5 ?_
  refine lv_if_le (tgt := 13) hx hb dX5_hasReached_6 (by decide) (fun c1 => ?_) (fun c1 => ?_)
  · have h := h.1 c1
    refine lv_iconst (v := 0) hx hb dX5_hasReached_13 (by decide) ?_
    rw [hQ]
    exact ret_z C hr hlk hw h (by decide) dX5_hasReached_14
  · have h := h.2 c1
    refine lv_iconst (v := 1) hx hb dX5_hasReached_9 (by decide) ?_
    refine lv_goto (tgt := 14) hx hb dX5_hasReached_10 (by decide) ?_
    rw [hQ]
    exact ret_z C hr hlk hw h (by decide) dX5_hasReached_14
theorem hy_X0_sumOfReachedValues : yX0_sumOfReachedValues.cls ≠ "java/lang/invoke/MethodHandle" ∧ yX0_sumOfReachedValues.cls ≠ "java/lang/invoke/VarHandle" ∧ (parseMethodDescriptor yX0_sumOfReachedValues.desc).map (fun d => d.parameters.length) = some 1 := by decide +kernel
def wp_X0_sumOfReachedValues (w : Wd) (p1 : Int32) (Post : Int32 → Wd → Prop) : Prop :=
  ∀ J11 : Nat → Int32 → Int32 → Wd → Prop, (∀ (kx2 : Nat) (x3 : Int32) (x4 : Int32) (w : Wd), (kx2 < 6 → (299 ≤ x4 → (Post x3 w)) ∧ (¬ 299 ≤ x4 → (wp_X5_hasReached w x4 (fun r1 w2 => (r1 = 0 → (∀ y1 : Int32, y1 = x4 + 1 → (J11 kx2 x3 y1 w2))) ∧ (¬ r1 = 0 → (wp_X3_valueAt kx2 w2 x4 (fun r2 w3 => ∀ y2 : Int32, y2 = x3 + r2 → (∀ y3 : Int32, y3 = x4 + 1 → (J11 kx2 y2 y3 w3))))))))) → J11 kx2 x3 x4 w) →
  wp_X0_valuesOf w p1 (fun kr1 w1 => J11 kr1 0 0 w1)
set_option maxHeartbeats 4000000 in
set_option maxRecDepth 100000 in
theorem mt_X0_sumOfReachedValues (l : Launch) {E : En} (hI : Inj E) (hF : ∀ o, (o < 15 ∨ 27 ≤ o ∧ o < 157) → o ∈ eL E) (w : Wd) (p1 : Int32) {Post : Int32 → Wd → Prop} (h : wp_X0_sumOfReachedValues w p1 Post) : MI l E yX0_sumOfReachedValues cX0_sumOfReachedValues 5 (some .int) 4 98 [.ref (eA E 3), .int p1] w Post := by
  refine MG.intro hI (by decide +kernel) (Nat.le_of_ble_eq_true rfl) ?_
  intro p e s m args below meth c Q C hr hlk hQ hw ls hl
  have hx := C.1
  have hb := C.2.1
  have hl : lv_has ls 5 [(0, .ref (eA E 3)), (1, .int p1)] := hl
  unfold wp_X0_sumOfReachedValues at h
  have h := h (fun kx2 x3 x4 w => kx2 < 6 → Jp E p l e (Rm 4 98) s m args below meth c Q 5 11 [(0, .ref (eA E 3)), (2, .ref (eA E ((41 + 2 * kx2)))), (3, .int x3), (4, .int x4)] w)
  have h := h ?_
  rotate_left
  · intro kx2 x3 x4 w h hkx2 H locs hw ls hl
    have h := h hkx2
    refine lv_iload hx hb dX0_sumOfReachedValues_11 (lv_at hl 3 rfl) ?_
    refine lv_sipush (v := 299) hx hb dX0_sumOfReachedValues_13 (by decide) ?_
    refine lv_icmp_ge (tgt := 50) hx hb dX0_sumOfReachedValues_16 (by decide) (fun c1 => ?_) (fun c1 => ?_)
    · have h := h.1 c1
      refine lv_iload_n hx hb dX0_sumOfReachedValues_50 rfl (lv_at hl 2 rfl) ?_
      rw [hQ]
      exact ret_i C hr hlk hw h dX0_sumOfReachedValues_51
    · have h := h.2 c1
      refine lv_aload_n hx hb dX0_sumOfReachedValues_19 rfl (lv_at hl 0 rfl) ?_
      refine g0_2 C hw (hF 3 (by decide)) K_f_X0_28 dX0_sumOfReachedValues_20 ?_
      refine lv_iload hx hb dX0_sumOfReachedValues_23 (lv_at hl 3 rfl) ?_
      refine done_i hw (my_runV (As := [.int x4]) (rest := []) C hw 8 5 (hF 8 (by decide)) rfl rfl (mt_X5_hasReached l C.2.2.2.2.2.2.2 hF _ _ h) K_m_X0_117 K_i_X5_hasReached K_v_X5_hasReached K_n_X5 K_c_X5_hasReached hy_X5_hasReached ⟨Nat.le_of_ble_eq_true rfl, Nat.le_of_ble_eq_true rfl⟩ hl.1 rfl (Nat.le_of_ble_eq_true rfl) dX0_sumOfReachedValues_25 ⟨Nat.zero_le _, Nat.zero_le _⟩) (fun r1 w2 H locs h hw => ?_)
      refine lv_if_eq (tgt := 44) hx hb dX0_sumOfReachedValues_28 (by decide) (fun c2 => ?_) (fun c2 => ?_)
      · have h := h.1 c2
        obtain ⟨y1, ey1⟩ : ∃ y : Int32, y = x4 + 1 := ⟨_, rfl⟩
        have h := h y1 ey1
        refine lv_iinc (v := y1) (lv' := [(4, .int y1), (0, .ref (eA E 3)), (2, .ref (eA E ((41 + 2 * kx2)))), (3, .int x3)]) hx hb dX0_sumOfReachedValues_44 hl (k := 3) rfl (by rw [ey1]; first | rfl | decide) (by decide) rfl (fun ls hl => ?_)
        refine lv_goto (tgt := 11) hx hb dX0_sumOfReachedValues_47 (by decide) ?_
        exact h hkx2 _ _ hw _ (lv_sub hl [1, 2, 3, 0] rfl)
      · have h := h.2 c2
        refine lv_iload_n hx hb dX0_sumOfReachedValues_31 rfl (lv_at hl 2 rfl) ?_
        refine lv_aload_n hx hb dX0_sumOfReachedValues_32 rfl (lv_at hl 1 rfl) ?_
        refine lv_aload_n hx hb dX0_sumOfReachedValues_33 rfl (lv_at hl 0 rfl) ?_
        refine g0_4 C hw (hF 3 (by decide)) K_f_X0_39 dX0_sumOfReachedValues_34 ?_
        refine lv_iload hx hb dX0_sumOfReachedValues_37 (lv_at hl 3 rfl) ?_
        refine done_i hw (my_runV (As := [.ref (eA E 5), .int x4]) (rest := [.int x3]) C hw (41 + 2 * kx2) 3 (hF _ (by have := hkx2; omega)) (ce_lv hkx2) rfl (mt_X3_valueAt l C.2.2.2.2.2.2.2 hF kx2 hkx2 _ _ h) K_m_X0_101 K_i_X3_valueAt K_v_X3_valueAt K_n_X3 K_c_X3_valueAt hy_X3_valueAt ⟨Nat.le_of_ble_eq_true rfl, Nat.le_of_ble_eq_true rfl⟩ hl.1 rfl (Nat.le_of_ble_eq_true rfl) dX0_sumOfReachedValues_39 ⟨Nat.zero_le _, Nat.zero_le _⟩) (fun r2 w3 H locs h hw => ?_)
        refine lv_iadd hx hb dX0_sumOfReachedValues_42 ?_
        refine lv_topi (fun y2 ey2 => ?_)
        have h := h y2 ey2
        refine lv_istore_n (lv' := [(3, .int y2), (0, .ref (eA E 3)), (2, .ref (eA E ((41 + 2 * kx2)))), (4, .int x4)]) hx hb dX0_sumOfReachedValues_43 rfl hl (by decide) rfl (fun ls hl => ?_)
        obtain ⟨y3, ey3⟩ : ∃ y : Int32, y = x4 + 1 := ⟨_, rfl⟩
        have h := h y3 ey3
        refine lv_iinc (v := y3) (lv' := [(4, .int y3), (3, .int y2), (0, .ref (eA E 3)), (2, .ref (eA E ((41 + 2 * kx2))))]) hx hb dX0_sumOfReachedValues_44 hl (k := 3) rfl (by rw [ey3]; first | rfl | decide) (by decide) rfl (fun ls hl => ?_)
        refine lv_goto (tgt := 11) hx hb dX0_sumOfReachedValues_47 (by decide) ?_
        exact h hkx2 _ _ hw _ (lv_sub hl [2, 3, 1, 0] rfl)
  refine lv_aload_n hx hb dX0_sumOfReachedValues_0 rfl (lv_at hl 0 rfl) ?_
  refine lv_iload_n hx hb dX0_sumOfReachedValues_1 rfl (lv_at hl 1 rfl) ?_
  refine done_r hw (my_runV (As := [.int p1]) (rest := []) C hw 3 0 (hF 3 (by decide)) rfl rfl (mt_X0_valuesOf l C.2.2.2.2.2.2.2 hF _ _ h) K_m_X0_94 K_i_X0_valuesOf K_v_X0_valuesOf K_n_X0 K_c_X0_valuesOf hy_X0_valuesOf ⟨Nat.le_of_ble_eq_true rfl, Nat.le_of_ble_eq_true rfl⟩ hl.1 rfl (Nat.le_of_ble_eq_true rfl) dX0_sumOfReachedValues_2 ⟨Nat.zero_le _, Nat.zero_le _⟩) (fun kr1 w1 H locs hkr1 h hw => ?_)
  refine lv_astore_n (lv' := [(2, .ref (eA E ((41 + 2 * kr1)))), (0, .ref (eA E 3)), (1, .int p1)]) hx hb dX0_sumOfReachedValues_5 rfl hl (by decide) rfl (fun ls hl => ?_)
  refine lv_iconst (v := 0) hx hb dX0_sumOfReachedValues_6 (by decide) ?_
  refine lv_istore_n (lv' := [(3, .int 0), (2, .ref (eA E ((41 + 2 * kr1)))), (0, .ref (eA E 3)), (1, .int p1)]) hx hb dX0_sumOfReachedValues_7 rfl hl (by decide) rfl (fun ls hl => ?_)
  refine lv_iconst (v := 0) hx hb dX0_sumOfReachedValues_8 (by decide) ?_
  refine lv_istore (lv' := [(4, .int 0), (3, .int 0), (2, .ref (eA E ((41 + 2 * kr1)))), (0, .ref (eA E 3)), (1, .int p1)]) hx hb dX0_sumOfReachedValues_9 hl (by decide) rfl (fun ls hl => ?_)
  exact h hkr1 _ _ hw _ (lv_sub hl [3, 2, 1, 0] rfl)
theorem hy_X6_hasLadder : yX6_hasLadder.cls ≠ "java/lang/invoke/MethodHandle" ∧ yX6_hasLadder.cls ≠ "java/lang/invoke/VarHandle" ∧ (parseMethodDescriptor yX6_hasLadder.desc).map (fun d => d.parameters.length) = some 1 := by decide +kernel
def wp_X6_hasLadder (k : Nat) (w : Wd) (p1 : Int32) (Post : Int32 → Wd → Prop) : Prop :=
  (p1 < 0 → (Post 0 w)) ∧ (¬ p1 < 0 → (((gI w (27 + 7 * k) 6) ≤ p1 → (Post 0 w)) ∧ (¬ (gI w (27 + 7 * k) 6) ≤ p1 → ((6 ≤ p1 → (Post 0 w)) ∧ (¬ 6 ≤ p1 → (Post 1 w))))))
set_option maxHeartbeats 4000000 in
set_option maxRecDepth 100000 in
theorem mt_X6_hasLadder (l : Launch) {E : En} (hI : Inj E) (hF : ∀ o, (o < 15 ∨ 27 ≤ o ∧ o < 157) → o ∈ eL E) (k : Nat) (hk : k < 2) (w : Wd) (p1 : Int32) {Post : Int32 → Wd → Prop} (h : wp_X6_hasLadder k w p1 Post) : MI l E yX6_hasLadder cX6_hasLadder 2 (some .boolean) 0 0 [.ref (eA E ((27 + 7 * k))), .int p1] w Post := by
  refine MG.intro hI (by decide +kernel) (Nat.le_of_ble_eq_true rfl) ?_
  intro p e s m args below meth c Q C hr hlk hQ hw ls hl
  have hx := C.1
  have hb := C.2.1
  have hl : lv_has ls 2 [(0, .ref (eA E ((27 + 7 * k)))), (1, .int p1)] := hl
  unfold wp_X6_hasLadder at h
  refine lv_iload_n hx hb dX6_hasLadder_0 rfl (lv_at hl 1 rfl) ?_
  refine lv_if_lt (tgt := 22) hx hb dX6_hasLadder_1 (by decide) (fun c1 => ?_) (fun c1 => ?_)
  · have h := h.1 c1
    refine lv_iconst (v := 0) hx hb dX6_hasLadder_22 (by decide) ?_
    rw [hQ]
    exact ret_z C hr hlk hw h (by decide) dX6_hasLadder_23
  · have h := h.2 c1
    refine lv_iload_n hx hb dX6_hasLadder_4 rfl (lv_at hl 1 rfl) ?_
    refine lv_aload_n hx hb dX6_hasLadder_5 rfl (lv_at hl 0 rfl) ?_
    refine g6_6 C hw k hk (hF _ (by have := hk; omega)) K_f_X6_36 dX6_hasLadder_6 ?_
    refine lv_icmp_ge (tgt := 22) hx hb dX6_hasLadder_9 (by decide) (fun c2 => ?_) (fun c2 => ?_)
    · have h := h.1 c2
      refine lv_iconst (v := 0) hx hb dX6_hasLadder_22 (by decide) ?_
      rw [hQ]
      exact ret_z C hr hlk hw h (by decide) dX6_hasLadder_23
    · have h := h.2 c2
      refine lv_iload_n hx hb dX6_hasLadder_12 rfl (lv_at hl 1 rfl) ?_
      refine lv_bipush (v := 6) hx hb dX6_hasLadder_13 (by decide) ?_
      refine lv_icmp_ge (tgt := 22) hx hb dX6_hasLadder_15 (by decide) (fun c3 => ?_) (fun c3 => ?_)
      · have h := h.1 c3
        refine lv_iconst (v := 0) hx hb dX6_hasLadder_22 (by decide) ?_
        rw [hQ]
        exact ret_z C hr hlk hw h (by decide) dX6_hasLadder_23
      · have h := h.2 c3
        refine lv_iconst (v := 1) hx hb dX6_hasLadder_18 (by decide) ?_
        refine lv_goto (tgt := 23) hx hb dX6_hasLadder_19 (by decide) ?_
        rw [hQ]
        exact ret_z C hr hlk hw h (by decide) dX6_hasLadder_23
theorem hy_X0_reasonAgainstStep : yX0_reasonAgainstStep.cls ≠ "java/lang/invoke/MethodHandle" ∧ yX0_reasonAgainstStep.cls ≠ "java/lang/invoke/VarHandle" ∧ (parseMethodDescriptor yX0_reasonAgainstStep.desc).map (fun d => d.parameters.length) = some 3 := by decide +kernel
def wp_X0_reasonAgainstStep (w : Wd) (p1 : Int32) (p2 : Int32) (p3 : Int32) (Post : Int32 → Wd → Prop) : Prop :=
  wp_X6_hasLadder 1 w p1 (fun r1 w1 => (r1 = 0 → (Post 2 w1)) ∧ (¬ r1 = 0 → (vp_in p1 6 ∧ (∀ y1 : Int32, y1 = gA w1 (53 + 8 * 0 + 1) p1.toNatClampNeg → ((p2 < 1 → (Post 3 w1)) ∧ (¬ p2 < 1 → (vp_in p1 6 ∧ (((gA w1 (27 + 7 * 1 + 1) p1.toNatClampNeg) < p2 → (Post 3 w1)) ∧ (¬ (gA w1 (27 + 7 * 1 + 1) p1.toNatClampNeg) < p2 → (wp_X8_hasBit w1 y1 p2 (fun r2 w2 => (r2 = 0 → (Post 3 w2)) ∧ (¬ r2 = 0 → ((p3 < 1 → (Post 4 w2)) ∧ (¬ p3 < 1 → ((12 < p3 → (Post 4 w2)) ∧ (¬ 12 < p3 → (vp_in p1 6 ∧ (wp_X8_hasBit w2 (gA w2 (27 + 7 * 1 + 3) p1.toNatClampNeg) p3 (fun r3 w3 => (r3 = 0 → (Post 4 w3)) ∧ (¬ r3 = 0 → (∀ y2 : Int32, y2 = p2 - p3 → ((0 ≤ y2 → (vp_in p1 6 ∧ (wp_X8_hasBit w3 (gA w3 (53 + 8 * 0 + 2) p1.toNatClampNeg) y2 (fun r4 w4 => (r4 = 0 → (wp_X8_hasBit w4 y1 y2 (fun r5 w5 => (r5 = 0 → (vp_in p1 6 ∧ (((gA w5 (53 + 8 * 0 + 3) p1.toNatClampNeg) = (1 - (gI w5 (53 + 8 * 0) 7)) → (Post 8 w5)) ∧ (¬ (gA w5 (53 + 8 * 0 + 3) p1.toNatClampNeg) = (1 - (gI w5 (53 + 8 * 0) 7)) → (wp_X7_isBanned 0 w5 p1 p2 p3 (fun r6 w6 => (r6 = 0 → (Post 0 w6)) ∧ (¬ r6 = 0 → (Post 9 w6)))))))) ∧ (¬ r5 = 0 → (Post 7 w5))))) ∧ (¬ r4 = 0 → (Post 6 w4)))))) ∧ (¬ 0 ≤ y2 → (Post 5 w3))))))))))))))))))))))))
set_option maxHeartbeats 4000000 in
set_option maxRecDepth 100000 in
theorem mt_X0_reasonAgainstStep (l : Launch) {E : En} (hI : Inj E) (hF : ∀ o, (o < 15 ∨ 27 ≤ o ∧ o < 157) → o ∈ eL E) (w : Wd) (p1 : Int32) (p2 : Int32) (p3 : Int32) {Post : Int32 → Wd → Prop} (h : wp_X0_reasonAgainstStep w p1 p2 p3 Post) : MI l E yX0_reasonAgainstStep cX0_reasonAgainstStep 6 (some .int) 1 23 [.ref (eA E 3), .int p1, .int p2, .int p3] w Post := by
  refine MG.intro hI (by decide +kernel) (Nat.le_of_ble_eq_true rfl) ?_
  intro p e s m args below meth c Q C hr hlk hQ hw ls hl
  have hx := C.1
  have hb := C.2.1
  have hl : lv_has ls 6 [(0, .ref (eA E 3)), (1, .int p1), (2, .int p2), (3, .int p3)] := hl
  unfold wp_X0_reasonAgainstStep at h
  refine lv_aload_n hx hb dX0_reasonAgainstStep_0 rfl (lv_at hl 0 rfl) ?_
  refine g0_0 C hw (hF 3 (by decide)) K_f_X0_12 dX0_reasonAgainstStep_1 ?_
  refine lv_iload_n hx hb dX0_reasonAgainstStep_4 rfl (lv_at hl 1 rfl) ?_
  refine done_i hw (my_runV (As := [.int p1]) (rest := []) C hw (27 + 7 * 1) 6 (hF _ (by have := (show 1 < 2 by decide); omega)) (ce_se (show 1 < 2 by decide)) rfl (mt_X6_hasLadder l C.2.2.2.2.2.2.2 hF 1 (show 1 < 2 by decide) _ _ h) K_m_X0_142 K_i_X6_hasLadder K_v_X6_hasLadder K_n_X6 K_c_X6_hasLadder hy_X6_hasLadder ⟨Nat.le_of_ble_eq_true rfl, Nat.le_of_ble_eq_true rfl⟩ hl.1 rfl (Nat.le_of_ble_eq_true rfl) dX0_reasonAgainstStep_5 ⟨Nat.zero_le _, Nat.zero_le _⟩) (fun r1 w1 H locs h hw => ?_)
  refine lv_if_ne (tgt := 13) hx hb dX0_reasonAgainstStep_8 (by decide) (fun c1 => ?_) (fun c1 => ?_)
  · have h := h.2 c1
    refine lv_aload_n hx hb dX0_reasonAgainstStep_13 rfl (lv_at hl 0 rfl) ?_
    refine g0_1 C hw (hF 3 (by decide)) K_f_X0_21 dX0_reasonAgainstStep_14 ?_
    refine g7_0 C hw 0 (show 0 < 13 by decide) (hF _ (by have := (show 0 < 13 by decide); omega)) K_f_X0_72 dX0_reasonAgainstStep_17 ?_
    refine lv_iload_n hx hb dX0_reasonAgainstStep_20 rfl (lv_at hl 1 rfl) ?_
    obtain ⟨hi1, h⟩ := h
    refine r_iald C hw (53 + 8 * 0 + 1) 6 (hF _ (by have := (show 0 < 13 by decide); omega)) (ce_sta 1 (show 0 < 13 by decide) (by decide) (by decide)) hi1 dX0_reasonAgainstStep_21 ?_
    refine lv_topi (fun y1 ey1 => ?_)
    have h := h y1 ey1
    refine lv_istore (lv' := [(4, .int y1), (0, .ref (eA E 3)), (1, .int p1), (2, .int p2), (3, .int p3)]) hx hb dX0_reasonAgainstStep_22 hl (by decide) rfl (fun ls hl => ?_)
    refine lv_iload_n hx hb dX0_reasonAgainstStep_24 rfl (lv_at hl 3 rfl) ?_
    refine lv_iconst (v := 1) hx hb dX0_reasonAgainstStep_25 (by decide) ?_
    refine lv_icmp_lt (tgt := 51) hx hb dX0_reasonAgainstStep_26 (by decide) (fun c2 => ?_) (fun c2 => ?_)
    · have h := h.1 c2
      refine lv_iconst (v := 3) hx hb dX0_reasonAgainstStep_51 (by decide) ?_
      rw [hQ]
      exact ret_i C hr hlk hw h dX0_reasonAgainstStep_52
    · have h := h.2 c2
      refine lv_iload_n hx hb dX0_reasonAgainstStep_29 rfl (lv_at hl 3 rfl) ?_
      refine lv_aload_n hx hb dX0_reasonAgainstStep_30 rfl (lv_at hl 1 rfl) ?_
      refine g0_0 C hw (hF 3 (by decide)) K_f_X0_12 dX0_reasonAgainstStep_31 ?_
      refine g6_0 C hw 1 (show 1 < 2 by decide) (hF _ (by have := (show 1 < 2 by decide); omega)) K_f_X0_121 dX0_reasonAgainstStep_34 ?_
      refine lv_iload_n hx hb dX0_reasonAgainstStep_37 rfl (lv_at hl 2 rfl) ?_
      obtain ⟨hi2, h⟩ := h
      refine r_iald C hw (27 + 7 * 1 + 1) 6 (hF _ (by have := (show 1 < 2 by decide); omega)) (ce_sea 1 (show 1 < 2 by decide) (by decide) (by decide)) hi2 dX0_reasonAgainstStep_38 ?_
      refine lv_icmp_gt (tgt := 51) hx hb dX0_reasonAgainstStep_39 (by decide) (fun c3 => ?_) (fun c3 => ?_)
      · have h := h.1 c3
        refine lv_iconst (v := 3) hx hb dX0_reasonAgainstStep_51 (by decide) ?_
        rw [hQ]
        exact ret_i C hr hlk hw h dX0_reasonAgainstStep_52
      · have h := h.2 c3
        refine lv_iload hx hb dX0_reasonAgainstStep_42 (lv_at hl 0 rfl) ?_
        refine lv_iload_n hx hb dX0_reasonAgainstStep_44 rfl (lv_at hl 3 rfl) ?_
        refine done_i hw (my_runSN (As := [.int y1, .int p2]) (rest := []) C hw (mt_X8_hasBit l C.2.2.2.2.2.2.2 _ _ _ h) nw_X0_68 K_s_X8_hasBit K_n_X8 K_c_X8_hasBit hy_X8_hasBit ⟨Nat.le_of_ble_eq_true rfl, Nat.le_of_ble_eq_true rfl⟩ hl.1 rfl (Nat.le_of_ble_eq_true rfl) dX0_reasonAgainstStep_45 ⟨Nat.zero_le _, Nat.zero_le _⟩) (fun r2 w2 H locs h hw => ?_)
        refine lv_if_ne (tgt := 53) hx hb dX0_reasonAgainstStep_48 (by decide) (fun c4 => ?_) (fun c4 => ?_)
        · have h := h.2 c4
          refine lv_iload_n hx hb dX0_reasonAgainstStep_53 rfl (lv_at hl 4 rfl) ?_
          refine lv_iconst (v := 1) hx hb dX0_reasonAgainstStep_54 (by decide) ?_
          refine lv_icmp_lt (tgt := 80) hx hb dX0_reasonAgainstStep_55 (by decide) (fun c5 => ?_) (fun c5 => ?_)
          · have h := h.1 c5
            refine lv_iconst (v := 4) hx hb dX0_reasonAgainstStep_80 (by decide) ?_
            rw [hQ]
            exact ret_i C hr hlk hw h dX0_reasonAgainstStep_81
          · have h := h.2 c5
            refine lv_iload_n hx hb dX0_reasonAgainstStep_58 rfl (lv_at hl 4 rfl) ?_
            refine lv_bipush (v := 12) hx hb dX0_reasonAgainstStep_59 (by decide) ?_
            refine lv_icmp_gt (tgt := 80) hx hb dX0_reasonAgainstStep_61 (by decide) (fun c6 => ?_) (fun c6 => ?_)
            · have h := h.1 c6
              refine lv_iconst (v := 4) hx hb dX0_reasonAgainstStep_80 (by decide) ?_
              rw [hQ]
              exact ret_i C hr hlk hw h dX0_reasonAgainstStep_81
            · have h := h.2 c6
              refine lv_aload_n hx hb dX0_reasonAgainstStep_64 rfl (lv_at hl 1 rfl) ?_
              refine g0_0 C hw (hF 3 (by decide)) K_f_X0_12 dX0_reasonAgainstStep_65 ?_
              refine g6_2 C hw 1 (show 1 < 2 by decide) (hF _ (by have := (show 1 < 2 by decide); omega)) K_f_X0_65 dX0_reasonAgainstStep_68 ?_
              refine lv_iload_n hx hb dX0_reasonAgainstStep_71 rfl (lv_at hl 2 rfl) ?_
              obtain ⟨hi3, h⟩ := h
              refine r_iald C hw (27 + 7 * 1 + 3) 6 (hF _ (by have := (show 1 < 2 by decide); omega)) (ce_sea 3 (show 1 < 2 by decide) (by decide) (by decide)) hi3 dX0_reasonAgainstStep_72 ?_
              refine lv_iload_n hx hb dX0_reasonAgainstStep_73 rfl (lv_at hl 4 rfl) ?_
              refine done_i hw (my_runSN (As := [.int (gA w2 (27 + 7 * 1 + 3) p1.toNatClampNeg), .int p3]) (rest := []) C hw (mt_X8_hasBit l C.2.2.2.2.2.2.2 _ _ _ h) nw_X0_68 K_s_X8_hasBit K_n_X8 K_c_X8_hasBit hy_X8_hasBit ⟨Nat.le_of_ble_eq_true rfl, Nat.le_of_ble_eq_true rfl⟩ hl.1 rfl (Nat.le_of_ble_eq_true rfl) dX0_reasonAgainstStep_74 ⟨Nat.zero_le _, Nat.zero_le _⟩) (fun r3 w3 H locs h hw => ?_)
              refine lv_if_ne (tgt := 82) hx hb dX0_reasonAgainstStep_77 (by decide) (fun c7 => ?_) (fun c7 => ?_)
              · have h := h.2 c7
                refine lv_iload_n hx hb dX0_reasonAgainstStep_82 rfl (lv_at hl 3 rfl) ?_
                refine lv_iload_n hx hb dX0_reasonAgainstStep_83 rfl (lv_at hl 4 rfl) ?_
                refine lv_isub hx hb dX0_reasonAgainstStep_84 ?_
                refine lv_topi (fun y2 ey2 => ?_)
                have h := h y2 ey2
                refine lv_istore (lv' := [(5, .int y2), (4, .int y1), (0, .ref (eA E 3)), (1, .int p1), (2, .int p2), (3, .int p3)]) hx hb dX0_reasonAgainstStep_85 hl (by decide) rfl (fun ls hl => ?_)
                refine lv_iload hx hb dX0_reasonAgainstStep_87 (lv_at hl 0 rfl) ?_
                refine lv_if_ge (tgt := 94) hx hb dX0_reasonAgainstStep_89 (by decide) (fun c8 => ?_) (fun c8 => ?_)
                · have h := h.1 c8
                  refine lv_aload_n hx hb dX0_reasonAgainstStep_94 rfl (lv_at hl 2 rfl) ?_
                  refine g0_1 C hw (hF 3 (by decide)) K_f_X0_21 dX0_reasonAgainstStep_95 ?_
                  refine g7_1 C hw 0 (show 0 < 13 by decide) (hF _ (by have := (show 0 < 13 by decide); omega)) K_f_X0_75 dX0_reasonAgainstStep_98 ?_
                  refine lv_iload_n hx hb dX0_reasonAgainstStep_101 rfl (lv_at hl 3 rfl) ?_
                  obtain ⟨hi4, h⟩ := h
                  refine r_iald C hw (53 + 8 * 0 + 2) 6 (hF _ (by have := (show 0 < 13 by decide); omega)) (ce_sta 2 (show 0 < 13 by decide) (by decide) (by decide)) hi4 dX0_reasonAgainstStep_102 ?_
                  refine lv_iload hx hb dX0_reasonAgainstStep_103 (lv_at hl 0 rfl) ?_
                  refine done_i hw (my_runSN (As := [.int (gA w3 (53 + 8 * 0 + 2) p1.toNatClampNeg), .int y2]) (rest := []) C hw (mt_X8_hasBit l C.2.2.2.2.2.2.2 _ _ _ h) nw_X0_68 K_s_X8_hasBit K_n_X8 K_c_X8_hasBit hy_X8_hasBit ⟨Nat.le_of_ble_eq_true rfl, Nat.le_of_ble_eq_true rfl⟩ hl.1 rfl (Nat.le_of_ble_eq_true rfl) dX0_reasonAgainstStep_105 ⟨Nat.zero_le _, Nat.zero_le _⟩) (fun r4 w4 H locs h hw => ?_)
                  refine lv_if_eq (tgt := 114) hx hb dX0_reasonAgainstStep_108 (by decide) (fun c9 => ?_) (fun c9 => ?_)
                  · have h := h.1 c9
                    refine lv_iload hx hb dX0_reasonAgainstStep_114 (lv_at hl 1 rfl) ?_
                    refine lv_iload hx hb dX0_reasonAgainstStep_116 (lv_at hl 0 rfl) ?_
                    refine done_i hw (my_runSN (As := [.int y1, .int y2]) (rest := []) C hw (mt_X8_hasBit l C.2.2.2.2.2.2.2 _ _ _ h) nw_X0_68 K_s_X8_hasBit K_n_X8 K_c_X8_hasBit hy_X8_hasBit ⟨Nat.le_of_ble_eq_true rfl, Nat.le_of_ble_eq_true rfl⟩ hl.1 rfl (Nat.le_of_ble_eq_true rfl) dX0_reasonAgainstStep_118 ⟨Nat.zero_le _, Nat.zero_le _⟩) (fun r5 w5 H locs h hw => ?_)
                    refine lv_if_eq (tgt := 127) hx hb dX0_reasonAgainstStep_121 (by decide) (fun c10 => ?_) (fun c10 => ?_)
                    · have h := h.1 c10
                      refine lv_aload_n hx hb dX0_reasonAgainstStep_127 rfl (lv_at hl 2 rfl) ?_
                      refine g0_1 C hw (hF 3 (by decide)) K_f_X0_21 dX0_reasonAgainstStep_128 ?_
                      refine g7_2 C hw 0 (show 0 < 13 by decide) (hF _ (by have := (show 0 < 13 by decide); omega)) K_f_X0_145 dX0_reasonAgainstStep_131 ?_
                      refine lv_iload_n hx hb dX0_reasonAgainstStep_134 rfl (lv_at hl 3 rfl) ?_
                      obtain ⟨hi5, h⟩ := h
                      refine r_iald C hw (53 + 8 * 0 + 3) 6 (hF _ (by have := (show 0 < 13 by decide); omega)) (ce_sta 3 (show 0 < 13 by decide) (by decide) (by decide)) hi5 dX0_reasonAgainstStep_135 ?_
                      refine lv_iconst (v := 1) hx hb dX0_reasonAgainstStep_136 (by decide) ?_
                      refine lv_aload_n hx hb dX0_reasonAgainstStep_137 rfl (lv_at hl 2 rfl) ?_
                      refine g0_1 C hw (hF 3 (by decide)) K_f_X0_21 dX0_reasonAgainstStep_138 ?_
                      refine g7_7 C hw 0 (show 0 < 13 by decide) (hF _ (by have := (show 0 < 13 by decide); omega)) K_f_X0_148 dX0_reasonAgainstStep_141 ?_
                      refine lv_isub hx hb dX0_reasonAgainstStep_144 ?_
                      refine lv_icmp_ne (tgt := 151) hx hb dX0_reasonAgainstStep_145 (by decide) (fun c11 => ?_) (fun c11 => ?_)
                      · have h := h.2 c11
                        refine lv_aload_n hx hb dX0_reasonAgainstStep_151 rfl (lv_at hl 2 rfl) ?_
                        refine g0_1 C hw (hF 3 (by decide)) K_f_X0_21 dX0_reasonAgainstStep_152 ?_
                        refine lv_iload_n hx hb dX0_reasonAgainstStep_155 rfl (lv_at hl 3 rfl) ?_
                        refine lv_iload_n hx hb dX0_reasonAgainstStep_156 rfl (lv_at hl 4 rfl) ?_
                        refine lv_iload_n hx hb dX0_reasonAgainstStep_157 rfl (lv_at hl 5 rfl) ?_
                        refine done_i hw (my_runV (As := [.int p1, .int p2, .int p3]) (rest := []) C hw (53 + 8 * 0) 7 (hF _ (by have := (show 0 < 13 by decide); omega)) (ce_st (show 0 < 13 by decide)) rfl (mt_X7_isBanned l C.2.2.2.2.2.2.2 hF 0 (show 0 < 13 by decide) _ _ _ _ h) K_m_X0_151 K_i_X7_isBanned K_v_X7_isBanned K_n_X7 K_c_X7_isBanned hy_X7_isBanned ⟨Nat.le_of_ble_eq_true rfl, Nat.le_of_ble_eq_true rfl⟩ hl.1 rfl (Nat.le_of_ble_eq_true rfl) dX0_reasonAgainstStep_158 ⟨Nat.zero_le _, Nat.zero_le _⟩) (fun r6 w6 H locs h hw => ?_)
                        refine lv_if_eq (tgt := 169) hx hb dX0_reasonAgainstStep_161 (by decide) (fun c12 => ?_) (fun c12 => ?_)
                        · have h := h.1 c12
                          refine lv_iconst (v := 0) hx hb dX0_reasonAgainstStep_169 (by decide) ?_
                          rw [hQ]
                          exact ret_i C hr hlk hw h dX0_reasonAgainstStep_170
                        · have h := h.2 c12
                          refine lv_bipush (v := 9) hx hb dX0_reasonAgainstStep_164 (by decide) ?_
                          refine lv_goto (tgt := 170) hx hb dX0_reasonAgainstStep_166 (by decide) ?_
                          rw [hQ]
                          exact ret_i C hr hlk hw h dX0_reasonAgainstStep_170
                      · have h := h.1 c11
                        refine lv_bipush (v := 8) hx hb dX0_reasonAgainstStep_148 (by decide) ?_
                        rw [hQ]
                        exact ret_i C hr hlk hw h dX0_reasonAgainstStep_150
                    · have h := h.2 c10
                      refine lv_bipush (v := 7) hx hb dX0_reasonAgainstStep_124 (by decide) ?_
                      rw [hQ]
                      exact ret_i C hr hlk hw h dX0_reasonAgainstStep_126
                  · have h := h.2 c9
                    refine lv_bipush (v := 6) hx hb dX0_reasonAgainstStep_111 (by decide) ?_
                    rw [hQ]
                    exact ret_i C hr hlk hw h dX0_reasonAgainstStep_113
                · have h := h.2 c8
                  refine lv_iconst (v := 5) hx hb dX0_reasonAgainstStep_92 (by decide) ?_
                  rw [hQ]
                  exact ret_i C hr hlk hw h dX0_reasonAgainstStep_93
              · have h := h.1 c7
                refine lv_iconst (v := 4) hx hb dX0_reasonAgainstStep_80 (by decide) ?_
                rw [hQ]
                exact ret_i C hr hlk hw h dX0_reasonAgainstStep_81
        · have h := h.1 c4
          refine lv_iconst (v := 3) hx hb dX0_reasonAgainstStep_51 (by decide) ?_
          rw [hQ]
          exact ret_i C hr hlk hw h dX0_reasonAgainstStep_52
  · have h := h.1 c1
    refine lv_iconst (v := 2) hx hb dX0_reasonAgainstStep_11 (by decide) ?_
    rw [hQ]
    exact ret_i C hr hlk hw h dX0_reasonAgainstStep_12
theorem hy_X0_listChoices : yX0_listChoices.cls ≠ "java/lang/invoke/MethodHandle" ∧ yX0_listChoices.cls ≠ "java/lang/invoke/VarHandle" ∧ (parseMethodDescriptor yX0_listChoices.desc).map (fun d => d.parameters.length) = some 0 := by decide +kernel
def wp_X0_listChoices (w : Wd) (Post : Int32 → Wd → Prop) : Prop :=
  ∀ J4 : Int32 → Int32 → Wd → Prop, ∀ J25 : Int32 → Int32 → Int32 → Wd → Prop, ∀ J55 : Int32 → Int32 → Int32 → Int32 → Int32 → Wd → Prop, (∀ (x1 : Int32) (x2 : Int32) (w : Wd), (((gI w (27 + 7 * 1) 6) ≤ x2 → (Post x1 w)) ∧ (¬ (gI w (27 + 7 * 1) 6) ≤ x2 → (vp_in x2 6 ∧ (∀ y1 : Int32, y1 = gA w (27 + 7 * 1 + 1) x2.toNatClampNeg → (J25 x1 x2 y1 w))))) → J4 x1 x2 w) →
  (∀ (x1 : Int32) (x2 : Int32) (x3 : Int32) (w : Wd), ((x3 ≤ 0 → (∀ y2 : Int32, y2 = x2 + 1 → (J4 x1 y2 w))) ∧ (¬ x3 ≤ 0 → (vp_in x2 6 ∧ (wp_X8_hasBit w (gA w (53 + 8 * 0 + 1) x2.toNatClampNeg) x3 (fun r1 w1 => (r1 = 0 → (J55 x1 x2 x3 0 1 w1)) ∧ (¬ r1 = 0 → (J55 x1 x2 x3 x3 1 w1))))))) → J25 x1 x2 x3 w) →
  (∀ (x1 : Int32) (x2 : Int32) (x3 : Int32) (x4 : Int32) (x5 : Int32) (w : Wd), ((x4 < x5 → (∀ y3 : Int32, y3 = x3 + (-1) → (J25 x1 x2 y3 w))) ∧ (¬ x4 < x5 → ((72 ≤ x1 → (∀ y4 : Int32, y4 = x3 + (-1) → (J25 x1 x2 y4 w))) ∧ (¬ 72 ≤ x1 → (wp_X0_reasonAgainstStep w x2 x3 x5 (fun r2 w2 => (r2 = 0 → (∀ y6 : Int32, y6 = ((x2 <<< (8 &&& 31)) ||| (x3 <<< (4 &&& 31))) ||| x5 → (vp_in x1 72 ∧ (∀ y7 : Int32, y7 = x1 + 1 → (∀ y8 : Int32, y8 = x5 + 1 → (J55 y7 x2 x3 x4 y8 (sA w2 4 x1.toNatClampNeg y6))))))) ∧ (¬ r2 = 0 → (∀ y5 : Int32, y5 = x5 + 1 → (J55 x1 x2 x3 x4 y5 w2))))))))) → J55 x1 x2 x3 x4 x5 w) →
  J4 0 0 w
set_option maxHeartbeats 4000000 in
set_option maxRecDepth 100000 in
theorem mt_X0_listChoices (l : Launch) {E : En} (hI : Inj E) (hF : ∀ o, (o < 15 ∨ 27 ≤ o ∧ o < 157) → o ∈ eL E) (w : Wd) {Post : Int32 → Wd → Prop} (h : wp_X0_listChoices w Post) : MI l E yX0_listChoices cX0_listChoices 6 (some .int) 2 48 [.ref (eA E 3)] w Post := by
  refine MG.intro hI (by decide +kernel) (Nat.le_of_ble_eq_true rfl) ?_
  intro p e s m args below meth c Q C hr hlk hQ hw ls hl
  have hx := C.1
  have hb := C.2.1
  have hl : lv_has ls 6 [(0, .ref (eA E 3))] := hl
  unfold wp_X0_listChoices at h
  have h := h (fun x1 x2 w => Jp E p l e (Rm 2 48) s m args below meth c Q 6 4 [(0, .ref (eA E 3)), (1, .int x1), (2, .int x2)] w)
  have h := h (fun x1 x2 x3 w => Jp E p l e (Rm 2 48) s m args below meth c Q 6 25 [(0, .ref (eA E 3)), (1, .int x1), (2, .int x2), (3, .int x3)] w)
  have h := h (fun x1 x2 x3 x4 x5 w => Jp E p l e (Rm 2 48) s m args below meth c Q 6 55 [(0, .ref (eA E 3)), (1, .int x1), (2, .int x2), (3, .int x3), (4, .int x4), (5, .int x5)] w)
  have h := h ?_
  rotate_left
  · intro x1 x2 w h H locs hw ls hl
    refine lv_iload_n hx hb dX0_listChoices_4 rfl (lv_at hl 2 rfl) ?_
    refine lv_aload_n hx hb dX0_listChoices_5 rfl (lv_at hl 0 rfl) ?_
    refine g0_0 C hw (hF 3 (by decide)) K_f_X0_12 dX0_listChoices_6 ?_
    refine g6_6 C hw 1 (show 1 < 2 by decide) (hF _ (by have := (show 1 < 2 by decide); omega)) K_f_X0_57 dX0_listChoices_9 ?_
    refine lv_icmp_ge (tgt := 120) hx hb dX0_listChoices_12 (by decide) (fun c1 => ?_) (fun c1 => ?_)
    · have h := h.1 c1
      refine lv_iload_n hx hb dX0_listChoices_120 rfl (lv_at hl 1 rfl) ?_
      rw [hQ]
      exact ret_i C hr hlk hw h dX0_listChoices_121
    · have h := h.2 c1
      refine lv_aload_n hx hb dX0_listChoices_15 rfl (lv_at hl 0 rfl) ?_
      refine g0_0 C hw (hF 3 (by decide)) K_f_X0_12 dX0_listChoices_16 ?_
      refine g6_0 C hw 1 (show 1 < 2 by decide) (hF _ (by have := (show 1 < 2 by decide); omega)) K_f_X0_121 dX0_listChoices_19 ?_
      refine lv_iload_n hx hb dX0_listChoices_22 rfl (lv_at hl 2 rfl) ?_
      obtain ⟨hi1, h⟩ := h
      refine r_iald C hw (27 + 7 * 1 + 1) 6 (hF _ (by have := (show 1 < 2 by decide); omega)) (ce_sea 1 (show 1 < 2 by decide) (by decide) (by decide)) hi1 dX0_listChoices_23 ?_
      refine lv_topi (fun y1 ey1 => ?_)
      have h := h y1 ey1
      refine lv_istore_n (lv' := [(3, .int y1), (0, .ref (eA E 3)), (1, .int x1), (2, .int x2)]) hx hb dX0_listChoices_24 rfl hl (by decide) rfl (fun ls hl => ?_)
      exact h _ _ hw _ (lv_sub hl [1, 2, 3, 0] rfl)
  have h := h ?_
  rotate_left
  · intro x1 x2 x3 w h H locs hw ls hl
    refine lv_iload_n hx hb dX0_listChoices_25 rfl (lv_at hl 3 rfl) ?_
    refine lv_if_le (tgt := 114) hx hb dX0_listChoices_26 (by decide) (fun c2 => ?_) (fun c2 => ?_)
    · have h := h.1 c2
      obtain ⟨y2, ey2⟩ : ∃ y : Int32, y = x2 + 1 := ⟨_, rfl⟩
      have h := h y2 ey2
      refine lv_iinc (v := y2) (lv' := [(2, .int y2), (0, .ref (eA E 3)), (1, .int x1), (3, .int x3)]) hx hb dX0_listChoices_114 hl (k := 2) rfl (by rw [ey2]; first | rfl | decide) (by decide) rfl (fun ls hl => ?_)
      refine lv_goto (tgt := 4) hx hb dX0_listChoices_117 (by decide) ?_
      exact h _ _ hw _ (lv_sub hl [1, 2, 0] rfl)
    · have h := h.2 c2
      refine lv_aload_n hx hb dX0_listChoices_29 rfl (lv_at hl 0 rfl) ?_
      refine g0_1 C hw (hF 3 (by decide)) K_f_X0_21 dX0_listChoices_30 ?_
      refine g7_0 C hw 0 (show 0 < 13 by decide) (hF _ (by have := (show 0 < 13 by decide); omega)) K_f_X0_72 dX0_listChoices_33 ?_
      refine lv_iload_n hx hb dX0_listChoices_36 rfl (lv_at hl 2 rfl) ?_
      obtain ⟨hi2, h⟩ := h
      refine r_iald C hw (53 + 8 * 0 + 1) 6 (hF _ (by have := (show 0 < 13 by decide); omega)) (ce_sta 1 (show 0 < 13 by decide) (by decide) (by decide)) hi2 dX0_listChoices_37 ?_
      refine lv_iload_n hx hb dX0_listChoices_38 rfl (lv_at hl 3 rfl) ?_
      refine done_i hw (my_runSN (As := [.int (gA w (53 + 8 * 0 + 1) x2.toNatClampNeg), .int x3]) (rest := []) C hw (mt_X8_hasBit l C.2.2.2.2.2.2.2 _ _ _ h) nw_X0_68 K_s_X8_hasBit K_n_X8 K_c_X8_hasBit hy_X8_hasBit ⟨Nat.le_of_ble_eq_true rfl, Nat.le_of_ble_eq_true rfl⟩ hl.1 rfl (Nat.le_of_ble_eq_true rfl) dX0_listChoices_39 ⟨Nat.zero_le _, Nat.zero_le _⟩) (fun r1 w1 H locs h hw => ?_)
      refine lv_if_eq (tgt := 49) hx hb dX0_listChoices_42 (by decide) (fun c3 => ?_) (fun c3 => ?_)
      · have h := h.1 c3
        refine lv_iconst (v := 0) hx hb dX0_listChoices_49 (by decide) ?_
        refine lv_istore (lv' := [(4, .int 0), (0, .ref (eA E 3)), (1, .int x1), (2, .int x2), (3, .int x3)]) hx hb dX0_listChoices_50 hl (by decide) rfl (fun ls hl => ?_)
        refine lv_iconst (v := 1) hx hb dX0_listChoices_52 (by decide) ?_
        refine lv_istore (lv' := [(5, .int 1), (4, .int 0), (0, .ref (eA E 3)), (1, .int x1), (2, .int x2), (3, .int x3)]) hx hb dX0_listChoices_53 hl (by decide) rfl (fun ls hl => ?_)
        exact h _ _ hw _ (lv_sub hl [2, 3, 4, 5, 1, 0] rfl)
      · have h := h.2 c3
        refine lv_iload_n hx hb dX0_listChoices_45 rfl (lv_at hl 3 rfl) ?_
        refine lv_goto (tgt := 50) hx hb dX0_listChoices_46 (by decide) ?_
        refine lv_istore (lv' := [(4, .int x3), (0, .ref (eA E 3)), (1, .int x1), (2, .int x2), (3, .int x3)]) hx hb dX0_listChoices_50 hl (by decide) rfl (fun ls hl => ?_)
        refine lv_iconst (v := 1) hx hb dX0_listChoices_52 (by decide) ?_
        refine lv_istore (lv' := [(5, .int 1), (4, .int x3), (0, .ref (eA E 3)), (1, .int x1), (2, .int x2), (3, .int x3)]) hx hb dX0_listChoices_53 hl (by decide) rfl (fun ls hl => ?_)
        exact h _ _ hw _ (lv_sub hl [2, 3, 4, 5, 1, 0] rfl)
  have h := h ?_
  rotate_left
  · intro x1 x2 x3 x4 x5 w h H locs hw ls hl
    refine lv_iload hx hb dX0_listChoices_55 (lv_at hl 5 rfl) ?_
    refine lv_iload hx hb dX0_listChoices_57 (lv_at hl 4 rfl) ?_
    refine lv_icmp_gt (tgt := 108) hx hb dX0_listChoices_59 (by decide) (fun c4 => ?_) (fun c4 => ?_)
    · have h := h.1 c4
      obtain ⟨y3, ey3⟩ : ∃ y : Int32, y = x3 + (-1) := ⟨_, rfl⟩
      have h := h y3 ey3
      refine lv_iinc (v := y3) (lv' := [(3, .int y3), (0, .ref (eA E 3)), (1, .int x1), (2, .int x2), (4, .int x4), (5, .int x5)]) hx hb dX0_listChoices_108 hl (k := 3) rfl (by rw [ey3]; first | rfl | decide) (by decide) rfl (fun ls hl => ?_)
      refine lv_goto (tgt := 25) hx hb dX0_listChoices_111 (by decide) ?_
      exact h _ _ hw _ (lv_sub hl [1, 2, 3, 0] rfl)
    · have h := h.2 c4
      refine lv_iload_n hx hb dX0_listChoices_62 rfl (lv_at hl 1 rfl) ?_
      refine lv_aload_n hx hb dX0_listChoices_63 rfl (lv_at hl 0 rfl) ?_
      refine g0_3 C hw (hF 3 (by decide)) K_f_X0_32 dX0_listChoices_64 ?_
      refine r_alen C hw 4 0 (hF 4 (by decide)) rfl rfl (v := 72) rfl dX0_listChoices_67 ?_
      refine lv_icmp_ge (tgt := 108) hx hb dX0_listChoices_68 (by decide) (fun c5 => ?_) (fun c5 => ?_)
      · have h := h.1 c5
        obtain ⟨y4, ey4⟩ : ∃ y : Int32, y = x3 + (-1) := ⟨_, rfl⟩
        have h := h y4 ey4
        refine lv_iinc (v := y4) (lv' := [(3, .int y4), (0, .ref (eA E 3)), (1, .int x1), (2, .int x2), (4, .int x4), (5, .int x5)]) hx hb dX0_listChoices_108 hl (k := 3) rfl (by rw [ey4]; first | rfl | decide) (by decide) rfl (fun ls hl => ?_)
        refine lv_goto (tgt := 25) hx hb dX0_listChoices_111 (by decide) ?_
        exact h _ _ hw _ (lv_sub hl [1, 2, 3, 0] rfl)
      · have h := h.2 c5
        refine lv_aload_n hx hb dX0_listChoices_71 rfl (lv_at hl 0 rfl) ?_
        refine lv_iload_n hx hb dX0_listChoices_72 rfl (lv_at hl 2 rfl) ?_
        refine lv_iload_n hx hb dX0_listChoices_73 rfl (lv_at hl 3 rfl) ?_
        refine lv_iload hx hb dX0_listChoices_74 (lv_at hl 5 rfl) ?_
        refine done_i hw (my_runV (As := [.int x2, .int x3, .int x5]) (rest := []) C hw 3 0 (hF 3 (by decide)) rfl rfl (mt_X0_reasonAgainstStep l C.2.2.2.2.2.2.2 hF _ _ _ _ h) K_m_X0_124 K_i_X0_reasonAgainstStep K_v_X0_reasonAgainstStep K_n_X0 K_c_X0_reasonAgainstStep hy_X0_reasonAgainstStep ⟨Nat.le_of_ble_eq_true rfl, Nat.le_of_ble_eq_true rfl⟩ hl.1 rfl (Nat.le_of_ble_eq_true rfl) dX0_listChoices_76 ⟨Nat.zero_le _, Nat.zero_le _⟩) (fun r2 w2 H locs h hw => ?_)
        refine lv_if_ne (tgt := 102) hx hb dX0_listChoices_79 (by decide) (fun c6 => ?_) (fun c6 => ?_)
        · have h := h.2 c6
          obtain ⟨y5, ey5⟩ : ∃ y : Int32, y = x5 + 1 := ⟨_, rfl⟩
          have h := h y5 ey5
          refine lv_iinc (v := y5) (lv' := [(5, .int y5), (0, .ref (eA E 3)), (1, .int x1), (2, .int x2), (3, .int x3), (4, .int x4)]) hx hb dX0_listChoices_102 hl (k := 5) rfl (by rw [ey5]; first | rfl | decide) (by decide) rfl (fun ls hl => ?_)
          refine lv_goto (tgt := 55) hx hb dX0_listChoices_105 (by decide) ?_
          exact h _ _ hw _ (lv_sub hl [1, 2, 3, 4, 5, 0] rfl)
        · have h := h.1 c6
          refine lv_aload_n hx hb dX0_listChoices_82 rfl (lv_at hl 0 rfl) ?_
          refine g0_3 C hw (hF 3 (by decide)) K_f_X0_32 dX0_listChoices_83 ?_
          refine lv_iload_n hx hb dX0_listChoices_86 rfl (lv_at hl 1 rfl) ?_
          refine lv_iload_n hx hb dX0_listChoices_87 rfl (lv_at hl 2 rfl) ?_
          refine lv_bipush (v := 8) hx hb dX0_listChoices_88 (by decide) ?_
          refine lv_ishl hx hb dX0_listChoices_90 ?_
          refine lv_iload_n hx hb dX0_listChoices_91 rfl (lv_at hl 3 rfl) ?_
          refine lv_iconst (v := 4) hx hb dX0_listChoices_92 (by decide) ?_
          refine lv_ishl hx hb dX0_listChoices_93 ?_
          refine lv_ior hx hb dX0_listChoices_94 ?_
          refine lv_iload hx hb dX0_listChoices_95 (lv_at hl 5 rfl) ?_
          refine lv_ior hx hb dX0_listChoices_97 ?_
          refine lv_topi (fun y6 ey6 => ?_)
          have h := h y6 ey6
          obtain ⟨hi3, h⟩ := h
          refine r_iast C hw 4 72 (hF 4 (by decide)) (fun _ => rfl) hi3 dX0_listChoices_98 (fun H locs hw => ?_)
          obtain ⟨y7, ey7⟩ : ∃ y : Int32, y = x1 + 1 := ⟨_, rfl⟩
          have h := h y7 ey7
          refine lv_iinc (v := y7) (lv' := [(1, .int y7), (0, .ref (eA E 3)), (2, .int x2), (3, .int x3), (4, .int x4), (5, .int x5)]) hx hb dX0_listChoices_99 hl (k := 1) rfl (by rw [ey7]; first | rfl | decide) (by decide) rfl (fun ls hl => ?_)
          obtain ⟨y8, ey8⟩ : ∃ y : Int32, y = x5 + 1 := ⟨_, rfl⟩
          have h := h y8 ey8
          refine lv_iinc (v := y8) (lv' := [(5, .int y8), (1, .int y7), (0, .ref (eA E 3)), (2, .int x2), (3, .int x3), (4, .int x4)]) hx hb dX0_listChoices_102 hl (k := 5) rfl (by rw [ey8]; first | rfl | decide) (by decide) rfl (fun ls hl => ?_)
          refine lv_goto (tgt := 55) hx hb dX0_listChoices_105 (by decide) ?_
          exact h _ _ hw _ (lv_sub hl [2, 1, 3, 4, 5, 0] rfl)
  refine lv_iconst (v := 0) hx hb dX0_listChoices_0 (by decide) ?_
  refine lv_istore_n (lv' := [(1, .int 0), (0, .ref (eA E 3))]) hx hb dX0_listChoices_1 rfl hl (by decide) rfl (fun ls hl => ?_)
  refine lv_iconst (v := 0) hx hb dX0_listChoices_2 (by decide) ?_
  refine lv_istore_n (lv' := [(2, .int 0), (1, .int 0), (0, .ref (eA E 3))]) hx hb dX0_listChoices_3 rfl hl (by decide) rfl (fun ls hl => ?_)
  exact h _ _ hw _ (lv_sub hl [2, 1, 0] rfl)
theorem hy_X0_ladderOf : yX0_ladderOf.cls ≠ "java/lang/invoke/MethodHandle" ∧ yX0_ladderOf.cls ≠ "java/lang/invoke/VarHandle" ∧ (parseMethodDescriptor yX0_ladderOf.desc).map (fun d => d.parameters.length) = some 1 := by decide +kernel
def wp_X0_ladderOf (w : Wd) (p0 : Int32) (Post : Int32 → Wd → Prop) : Prop :=
  Post (p0 >>> (8 &&& 31)) w
set_option maxHeartbeats 4000000 in
set_option maxRecDepth 100000 in
theorem mt_X0_ladderOf (l : Launch) {E : En} (hI : Inj E) (hF : ∀ o, (o < 15 ∨ 27 ≤ o ∧ o < 157) → o ∈ eL E) (w : Wd) (p0 : Int32) {Post : Int32 → Wd → Prop} (h : wp_X0_ladderOf w p0 Post) : MI l E yX0_ladderOf cX0_ladderOf 1 (some .int) 0 0 [.int p0] w Post := by
  refine MG.intro hI (by decide +kernel) (Nat.le_of_ble_eq_true rfl) ?_
  intro p e s m args below meth c Q C hr hlk hQ hw ls hl
  have hx := C.1
  have hb := C.2.1
  have hl : lv_has ls 1 [(0, .int p0)] := hl
  unfold wp_X0_ladderOf at h
  refine lv_iload_n hx hb dX0_ladderOf_0 rfl (lv_at hl 0 rfl) ?_
  refine lv_bipush (v := 8) hx hb dX0_ladderOf_1 (by decide) ?_
  refine lv_ishr hx hb dX0_ladderOf_3 ?_
  rw [hQ]
  exact ret_i C hr hlk hw h dX0_ladderOf_4
theorem hy_X0_heightOf : yX0_heightOf.cls ≠ "java/lang/invoke/MethodHandle" ∧ yX0_heightOf.cls ≠ "java/lang/invoke/VarHandle" ∧ (parseMethodDescriptor yX0_heightOf.desc).map (fun d => d.parameters.length) = some 1 := by decide +kernel
def wp_X0_heightOf (w : Wd) (p0 : Int32) (Post : Int32 → Wd → Prop) : Prop :=
  Post ((p0 >>> (4 &&& 31)) &&& 15) w
set_option maxHeartbeats 4000000 in
set_option maxRecDepth 100000 in
theorem mt_X0_heightOf (l : Launch) {E : En} (hI : Inj E) (hF : ∀ o, (o < 15 ∨ 27 ≤ o ∧ o < 157) → o ∈ eL E) (w : Wd) (p0 : Int32) {Post : Int32 → Wd → Prop} (h : wp_X0_heightOf w p0 Post) : MI l E yX0_heightOf cX0_heightOf 1 (some .int) 0 0 [.int p0] w Post := by
  refine MG.intro hI (by decide +kernel) (Nat.le_of_ble_eq_true rfl) ?_
  intro p e s m args below meth c Q C hr hlk hQ hw ls hl
  have hx := C.1
  have hb := C.2.1
  have hl : lv_has ls 1 [(0, .int p0)] := hl
  unfold wp_X0_heightOf at h
  refine lv_iload_n hx hb dX0_heightOf_0 rfl (lv_at hl 0 rfl) ?_
  refine lv_iconst (v := 4) hx hb dX0_heightOf_1 (by decide) ?_
  refine lv_ishr hx hb dX0_heightOf_2 ?_
  refine lv_bipush (v := 15) hx hb dX0_heightOf_3 (by decide) ?_
  refine lv_iand hx hb dX0_heightOf_5 ?_
  rw [hQ]
  exact ret_i C hr hlk hw h dX0_heightOf_6
theorem hy_X0_sizeOf : yX0_sizeOf.cls ≠ "java/lang/invoke/MethodHandle" ∧ yX0_sizeOf.cls ≠ "java/lang/invoke/VarHandle" ∧ (parseMethodDescriptor yX0_sizeOf.desc).map (fun d => d.parameters.length) = some 1 := by decide +kernel
def wp_X0_sizeOf (w : Wd) (p0 : Int32) (Post : Int32 → Wd → Prop) : Prop :=
  Post (p0 &&& 15) w
set_option maxHeartbeats 4000000 in
set_option maxRecDepth 100000 in
theorem mt_X0_sizeOf (l : Launch) {E : En} (hI : Inj E) (hF : ∀ o, (o < 15 ∨ 27 ≤ o ∧ o < 157) → o ∈ eL E) (w : Wd) (p0 : Int32) {Post : Int32 → Wd → Prop} (h : wp_X0_sizeOf w p0 Post) : MI l E yX0_sizeOf cX0_sizeOf 1 (some .int) 0 0 [.int p0] w Post := by
  refine MG.intro hI (by decide +kernel) (Nat.le_of_ble_eq_true rfl) ?_
  intro p e s m args below meth c Q C hr hlk hQ hw ls hl
  have hx := C.1
  have hb := C.2.1
  have hl : lv_has ls 1 [(0, .int p0)] := hl
  unfold wp_X0_sizeOf at h
  refine lv_iload_n hx hb dX0_sizeOf_0 rfl (lv_at hl 0 rfl) ?_
  refine lv_bipush (v := 15) hx hb dX0_sizeOf_1 (by decide) ?_
  refine lv_iand hx hb dX0_sizeOf_3 ?_
  rw [hQ]
  exact ret_i C hr hlk hw h dX0_sizeOf_4
theorem hy_X0_changeOfValue : yX0_changeOfValue.cls ≠ "java/lang/invoke/MethodHandle" ∧ yX0_changeOfValue.cls ≠ "java/lang/invoke/VarHandle" ∧ (parseMethodDescriptor yX0_changeOfValue.desc).map (fun d => d.parameters.length) = some 1 := by decide +kernel
def wp_X0_changeOfValue (w : Wd) (p1 : Int32) (Post : Int32 → Wd → Prop) : Prop :=
  wp_X0_ladderOf w p1 (fun r1 w1 => wp_X0_heightOf w1 p1 (fun r2 w2 => vp_in r1 6 ∧ (∀ y1 : Int32, y1 = gA w2 (53 + 8 * 0 + 1) r1.toNatClampNeg → (wp_X0_sizeOf w2 p1 (fun r3 w3 => wp_X8_moved w3 y1 r2 (r2 - r3) (fun r4 w4 => wp_X0_valuesOf w4 r1 (fun kr1 w5 => wp_X4_rankOf w5 y1 (fun r5 w6 => wp_X3_valueAt kr1 w6 r5 (fun r6 w7 => wp_X4_rankOf w7 r4 (fun r7 w8 => wp_X3_valueAt kr1 w8 r7 (fun r8 w9 => Post (r6 ^^^ r8) w9)))))))))))
set_option maxHeartbeats 4000000 in
set_option maxRecDepth 100000 in
theorem mt_X0_changeOfValue (l : Launch) {E : En} (hI : Inj E) (hF : ∀ o, (o < 15 ∨ 27 ≤ o ∧ o < 157) → o ∈ eL E) (w : Wd) (p1 : Int32) {Post : Int32 → Wd → Prop} (h : wp_X0_changeOfValue w p1 Post) : MI l E yX0_changeOfValue cX0_changeOfValue 7 (some .int) 4 98 [.ref (eA E 3), .int p1] w Post := by
  refine MG.intro hI (by decide +kernel) (Nat.le_of_ble_eq_true rfl) ?_
  intro p e s m args below meth c Q C hr hlk hQ hw ls hl
  have hx := C.1
  have hb := C.2.1
  have hl : lv_has ls 7 [(0, .ref (eA E 3)), (1, .int p1)] := hl
  unfold wp_X0_changeOfValue at h
  refine lv_iload_n hx hb dX0_changeOfValue_0 rfl (lv_at hl 1 rfl) ?_
  refine done_i hw (my_runS (As := [.int p1]) (rest := []) C hw (mt_X0_ladderOf l C.2.2.2.2.2.2.2 hF _ _ h) K_m_X0_127 K_s_X0_ladderOf K_n_X0 K_c_X0_ladderOf hy_X0_ladderOf ⟨Nat.le_of_ble_eq_true rfl, Nat.le_of_ble_eq_true rfl⟩ hl.1 rfl (Nat.le_of_ble_eq_true rfl) dX0_changeOfValue_1 ⟨Nat.zero_le _, Nat.zero_le _⟩) (fun r1 w1 H locs h hw => ?_)
  refine lv_istore_n (lv' := [(2, .int r1), (0, .ref (eA E 3)), (1, .int p1)]) hx hb dX0_changeOfValue_4 rfl hl (by decide) rfl (fun ls hl => ?_)
  refine lv_iload_n hx hb dX0_changeOfValue_5 rfl (lv_at hl 2 rfl) ?_
  refine done_i hw (my_runS (As := [.int p1]) (rest := []) C hw (mt_X0_heightOf l C.2.2.2.2.2.2.2 hF _ _ h) K_m_X0_130 K_s_X0_heightOf K_n_X0 K_c_X0_heightOf hy_X0_heightOf ⟨Nat.le_of_ble_eq_true rfl, Nat.le_of_ble_eq_true rfl⟩ hl.1 rfl (Nat.le_of_ble_eq_true rfl) dX0_changeOfValue_6 ⟨Nat.zero_le _, Nat.zero_le _⟩) (fun r2 w2 H locs h hw => ?_)
  refine lv_istore_n (lv' := [(3, .int r2), (2, .int r1), (0, .ref (eA E 3)), (1, .int p1)]) hx hb dX0_changeOfValue_9 rfl hl (by decide) rfl (fun ls hl => ?_)
  refine lv_aload_n hx hb dX0_changeOfValue_10 rfl (lv_at hl 2 rfl) ?_
  refine g0_1 C hw (hF 3 (by decide)) K_f_X0_21 dX0_changeOfValue_11 ?_
  refine g7_0 C hw 0 (show 0 < 13 by decide) (hF _ (by have := (show 0 < 13 by decide); omega)) K_f_X0_72 dX0_changeOfValue_14 ?_
  refine lv_iload_n hx hb dX0_changeOfValue_17 rfl (lv_at hl 1 rfl) ?_
  obtain ⟨hi1, h⟩ := h
  refine r_iald C hw (53 + 8 * 0 + 1) 6 (hF _ (by have := (show 0 < 13 by decide); omega)) (ce_sta 1 (show 0 < 13 by decide) (by decide) (by decide)) hi1 dX0_changeOfValue_18 ?_
  refine lv_topi (fun y1 ey1 => ?_)
  have h := h y1 ey1
  refine lv_istore (lv' := [(4, .int y1), (3, .int r2), (2, .int r1), (0, .ref (eA E 3)), (1, .int p1)]) hx hb dX0_changeOfValue_19 hl (by decide) rfl (fun ls hl => ?_)
  refine lv_iload hx hb dX0_changeOfValue_21 (lv_at hl 0 rfl) ?_
  refine lv_iload_n hx hb dX0_changeOfValue_23 rfl (lv_at hl 1 rfl) ?_
  refine lv_iload_n hx hb dX0_changeOfValue_24 rfl (lv_at hl 1 rfl) ?_
  refine lv_iload_n hx hb dX0_changeOfValue_25 rfl (lv_at hl 4 rfl) ?_
  refine done_i hw (my_runS (As := [.int p1]) (rest := [.int r2, .int r2, .int y1]) C hw (mt_X0_sizeOf l C.2.2.2.2.2.2.2 hF _ _ h) K_m_X0_133 K_s_X0_sizeOf K_n_X0 K_c_X0_sizeOf hy_X0_sizeOf ⟨Nat.le_of_ble_eq_true rfl, Nat.le_of_ble_eq_true rfl⟩ hl.1 rfl (Nat.le_of_ble_eq_true rfl) dX0_changeOfValue_26 ⟨Nat.zero_le _, Nat.zero_le _⟩) (fun r3 w3 H locs h hw => ?_)
  refine lv_isub hx hb dX0_changeOfValue_29 ?_
  refine done_i hw (my_runSN (As := [.int y1, .int r2, .int (r2 - r3)]) (rest := []) C hw (mt_X8_moved l C.2.2.2.2.2.2.2 _ _ _ _ h) nw_X0_136 K_s_X8_moved K_n_X8 K_c_X8_moved hy_X8_moved ⟨Nat.le_of_ble_eq_true rfl, Nat.le_of_ble_eq_true rfl⟩ hl.1 rfl (Nat.le_of_ble_eq_true rfl) dX0_changeOfValue_30 ⟨Nat.zero_le _, Nat.zero_le _⟩) (fun r4 w4 H locs h hw => ?_)
  refine lv_istore (lv' := [(5, .int r4), (4, .int y1), (3, .int r2), (2, .int r1), (0, .ref (eA E 3)), (1, .int p1)]) hx hb dX0_changeOfValue_33 hl (by decide) rfl (fun ls hl => ?_)
  refine lv_aload_n hx hb dX0_changeOfValue_35 rfl (lv_at hl 4 rfl) ?_
  refine lv_iload_n hx hb dX0_changeOfValue_36 rfl (lv_at hl 3 rfl) ?_
  refine done_r hw (my_runV (As := [.int r1]) (rest := []) C hw 3 0 (hF 3 (by decide)) rfl rfl (mt_X0_valuesOf l C.2.2.2.2.2.2.2 hF _ _ h) K_m_X0_94 K_i_X0_valuesOf K_v_X0_valuesOf K_n_X0 K_c_X0_valuesOf hy_X0_valuesOf ⟨Nat.le_of_ble_eq_true rfl, Nat.le_of_ble_eq_true rfl⟩ hl.1 rfl (Nat.le_of_ble_eq_true rfl) dX0_changeOfValue_37 ⟨Nat.zero_le _, Nat.zero_le _⟩) (fun kr1 w5 H locs hkr1 h hw => ?_)
  refine lv_astore (lv' := [(6, .ref (eA E ((41 + 2 * kr1)))), (5, .int r4), (4, .int y1), (3, .int r2), (2, .int r1), (0, .ref (eA E 3)), (1, .int p1)]) hx hb dX0_changeOfValue_40 hl (by decide) rfl (fun ls hl => ?_)
  refine lv_aload hx hb dX0_changeOfValue_42 (lv_at hl 0 rfl) ?_
  refine lv_aload_n hx hb dX0_changeOfValue_44 rfl (lv_at hl 5 rfl) ?_
  refine g0_4 C hw (hF 3 (by decide)) K_f_X0_39 dX0_changeOfValue_45 ?_
  refine lv_iload hx hb dX0_changeOfValue_48 (lv_at hl 2 rfl) ?_
  refine done_i hw (my_runS (As := [.int y1]) (rest := [.ref (eA E 5), .ref (eA E ((41 + 2 * kr1)))]) C hw (mt_X4_rankOf l C.2.2.2.2.2.2.2 _ _ h) K_m_X0_98 K_s_X4_rankOf K_n_X4 K_c_X4_rankOf hy_X4_rankOf ⟨Nat.le_of_ble_eq_true rfl, Nat.le_of_ble_eq_true rfl⟩ hl.1 rfl (Nat.le_of_ble_eq_true rfl) dX0_changeOfValue_50 ⟨Nat.zero_le _, Nat.zero_le _⟩) (fun r5 w6 H locs h hw => ?_)
  refine done_i hw (my_runV (As := [.ref (eA E 5), .int r5]) (rest := []) C hw (41 + 2 * kr1) 3 (hF _ (by have := hkr1; omega)) (ce_lv hkr1) rfl (mt_X3_valueAt l C.2.2.2.2.2.2.2 hF kr1 hkr1 _ _ h) K_m_X0_101 K_i_X3_valueAt K_v_X3_valueAt K_n_X3 K_c_X3_valueAt hy_X3_valueAt ⟨Nat.le_of_ble_eq_true rfl, Nat.le_of_ble_eq_true rfl⟩ hl.1 rfl (Nat.le_of_ble_eq_true rfl) dX0_changeOfValue_53 ⟨Nat.zero_le _, Nat.zero_le _⟩) (fun r6 w7 H locs h hw => ?_)
  refine lv_aload hx hb dX0_changeOfValue_56 (lv_at hl 0 rfl) ?_
  refine lv_aload_n hx hb dX0_changeOfValue_58 rfl (lv_at hl 5 rfl) ?_
  refine g0_4 C hw (hF 3 (by decide)) K_f_X0_39 dX0_changeOfValue_59 ?_
  refine lv_iload hx hb dX0_changeOfValue_62 (lv_at hl 1 rfl) ?_
  refine done_i hw (my_runS (As := [.int r4]) (rest := [.ref (eA E 5), .ref (eA E ((41 + 2 * kr1))), .int r6]) C hw (mt_X4_rankOf l C.2.2.2.2.2.2.2 _ _ h) K_m_X0_98 K_s_X4_rankOf K_n_X4 K_c_X4_rankOf hy_X4_rankOf ⟨Nat.le_of_ble_eq_true rfl, Nat.le_of_ble_eq_true rfl⟩ hl.1 rfl (Nat.le_of_ble_eq_true rfl) dX0_changeOfValue_64 ⟨Nat.zero_le _, Nat.zero_le _⟩) (fun r7 w8 H locs h hw => ?_)
  refine done_i hw (my_runV (As := [.ref (eA E 5), .int r7]) (rest := [.int r6]) C hw (41 + 2 * kr1) 3 (hF _ (by have := hkr1; omega)) (ce_lv hkr1) rfl (mt_X3_valueAt l C.2.2.2.2.2.2.2 hF kr1 hkr1 _ _ h) K_m_X0_101 K_i_X3_valueAt K_v_X3_valueAt K_n_X3 K_c_X3_valueAt hy_X3_valueAt ⟨Nat.le_of_ble_eq_true rfl, Nat.le_of_ble_eq_true rfl⟩ hl.1 rfl (Nat.le_of_ble_eq_true rfl) dX0_changeOfValue_67 ⟨Nat.zero_le _, Nat.zero_le _⟩) (fun r8 w9 H locs h hw => ?_)
  refine lv_ixor hx hb dX0_changeOfValue_70 ?_
  rw [hQ]
  exact ret_i C hr hlk hw h dX0_changeOfValue_71
theorem hy_X0_firstWinning : yX0_firstWinning.cls ≠ "java/lang/invoke/MethodHandle" ∧ yX0_firstWinning.cls ≠ "java/lang/invoke/VarHandle" ∧ (parseMethodDescriptor yX0_firstWinning.desc).map (fun d => d.parameters.length) = some 2 := by decide +kernel
def wp_X0_firstWinning (w : Wd) (p1 : Int32) (p2 : Int32) (Post : Int32 → Wd → Prop) : Prop :=
  ∀ J2 : Int32 → Wd → Prop, (∀ (x3 : Int32) (w : Wd), ((p1 ≤ x3 → (Post ((-1)) w)) ∧ (¬ p1 ≤ x3 → ((72 ≤ x3 → (Post ((-1)) w)) ∧ (¬ 72 ≤ x3 → (vp_in x3 72 ∧ (wp_X0_changeOfValue w (gA w 4 x3.toNatClampNeg) (fun r1 w1 => (r1 = p2 → (Post x3 w1)) ∧ (¬ r1 = p2 → (∀ y1 : Int32, y1 = x3 + 1 → (J2 y1 w1)))))))))) → J2 x3 w) →
  J2 0 w
set_option maxHeartbeats 4000000 in
set_option maxRecDepth 100000 in
theorem mt_X0_firstWinning (l : Launch) {E : En} (hI : Inj E) (hF : ∀ o, (o < 15 ∨ 27 ≤ o ∧ o < 157) → o ∈ eL E) (w : Wd) (p1 : Int32) (p2 : Int32) {Post : Int32 → Wd → Prop} (h : wp_X0_firstWinning w p1 p2 Post) : MI l E yX0_firstWinning cX0_firstWinning 4 (some .int) 5 124 [.ref (eA E 3), .int p1, .int p2] w Post := by
  refine MG.intro hI (by decide +kernel) (Nat.le_of_ble_eq_true rfl) ?_
  intro p e s m args below meth c Q C hr hlk hQ hw ls hl
  have hx := C.1
  have hb := C.2.1
  have hl : lv_has ls 4 [(0, .ref (eA E 3)), (1, .int p1), (2, .int p2)] := hl
  unfold wp_X0_firstWinning at h
  have h := h (fun x3 w => Jp E p l e (Rm 5 124) s m args below meth c Q 4 2 [(0, .ref (eA E 3)), (1, .int p1), (2, .int p2), (3, .int x3)] w)
  have h := h ?_
  rotate_left
  · intro x3 w h H locs hw ls hl
    refine lv_iload_n hx hb dX0_firstWinning_2 rfl (lv_at hl 3 rfl) ?_
    refine lv_iload_n hx hb dX0_firstWinning_3 rfl (lv_at hl 1 rfl) ?_
    refine lv_icmp_ge (tgt := 38) hx hb dX0_firstWinning_4 (by decide) (fun c1 => ?_) (fun c1 => ?_)
    · have h := h.1 c1
      refine lv_iconst (v := (-1)) hx hb dX0_firstWinning_38 (by decide) ?_
      rw [hQ]
      exact ret_i C hr hlk hw h dX0_firstWinning_39
    · have h := h.2 c1
      refine lv_iload_n hx hb dX0_firstWinning_7 rfl (lv_at hl 3 rfl) ?_
      refine lv_aload_n hx hb dX0_firstWinning_8 rfl (lv_at hl 0 rfl) ?_
      refine g0_3 C hw (hF 3 (by decide)) K_f_X0_32 dX0_firstWinning_9 ?_
      refine r_alen C hw 4 0 (hF 4 (by decide)) rfl rfl (v := 72) rfl dX0_firstWinning_12 ?_
      refine lv_icmp_ge (tgt := 38) hx hb dX0_firstWinning_13 (by decide) (fun c2 => ?_) (fun c2 => ?_)
      · have h := h.1 c2
        refine lv_iconst (v := (-1)) hx hb dX0_firstWinning_38 (by decide) ?_
        rw [hQ]
        exact ret_i C hr hlk hw h dX0_firstWinning_39
      · have h := h.2 c2
        refine lv_aload_n hx hb dX0_firstWinning_16 rfl (lv_at hl 0 rfl) ?_
        refine lv_aload_n hx hb dX0_firstWinning_17 rfl (lv_at hl 0 rfl) ?_
        refine g0_3 C hw (hF 3 (by decide)) K_f_X0_32 dX0_firstWinning_18 ?_
        refine lv_iload_n hx hb dX0_firstWinning_21 rfl (lv_at hl 3 rfl) ?_
        obtain ⟨hi1, h⟩ := h
        refine r_iald C hw 4 72 (hF 4 (by decide)) rfl hi1 dX0_firstWinning_22 ?_
        refine done_i hw (my_runV (As := [.int (gA w 4 x3.toNatClampNeg)]) (rest := []) C hw 3 0 (hF 3 (by decide)) rfl rfl (mt_X0_changeOfValue l C.2.2.2.2.2.2.2 hF _ _ h) K_m_X0_139 K_i_X0_changeOfValue K_v_X0_changeOfValue K_n_X0 K_c_X0_changeOfValue hy_X0_changeOfValue ⟨Nat.le_of_ble_eq_true rfl, Nat.le_of_ble_eq_true rfl⟩ hl.1 rfl (Nat.le_of_ble_eq_true rfl) dX0_firstWinning_23 ⟨Nat.zero_le _, Nat.zero_le _⟩) (fun r1 w1 H locs h hw => ?_)
        refine lv_iload_n hx hb dX0_firstWinning_26 rfl (lv_at hl 2 rfl) ?_
        refine lv_icmp_ne (tgt := 32) hx hb dX0_firstWinning_27 (by decide) (fun c3 => ?_) (fun c3 => ?_)
        · have h := h.2 c3
          obtain ⟨y1, ey1⟩ : ∃ y : Int32, y = x3 + 1 := ⟨_, rfl⟩
          have h := h y1 ey1
          refine lv_iinc (v := y1) (lv' := [(3, .int y1), (0, .ref (eA E 3)), (1, .int p1), (2, .int p2)]) hx hb dX0_firstWinning_32 hl (k := 3) rfl (by rw [ey1]; first | rfl | decide) (by decide) rfl (fun ls hl => ?_)
          refine lv_goto (tgt := 2) hx hb dX0_firstWinning_35 (by decide) ?_
          exact h _ _ hw _ (lv_sub hl [1, 2, 3, 0] rfl)
        · have h := h.1 c3
          refine lv_iload_n hx hb dX0_firstWinning_30 rfl (lv_at hl 3 rfl) ?_
          rw [hQ]
          exact ret_i C hr hlk hw h dX0_firstWinning_31
  refine lv_iconst (v := 0) hx hb dX0_firstWinning_0 (by decide) ?_
  refine lv_istore_n (lv' := [(3, .int 0), (0, .ref (eA E 3)), (1, .int p1), (2, .int p2)]) hx hb dX0_firstWinning_1 rfl hl (by decide) rfl (fun ls hl => ?_)
  exact h _ _ hw _ (lv_sub hl [1, 2, 3, 0] rfl)
theorem hy_X0_makeStep : yX0_makeStep.cls ≠ "java/lang/invoke/MethodHandle" ∧ yX0_makeStep.cls ≠ "java/lang/invoke/VarHandle" ∧ (parseMethodDescriptor yX0_makeStep.desc).map (fun d => d.parameters.length) = some 3 := by decide +kernel
def wp_X0_makeStep (w : Wd) (p1 : Int32) (p2 : Int32) (p3 : Int32) (Post : Wd → Prop) : Prop :=
  vp_in p1 6 ∧ (wp_X8_moved w (gA w (53 + 8 * 0 + 1) p1.toNatClampNeg) p2 (p2 - p3) (fun r1 w1 => vp_in p1 6 ∧ (wp_X7_addToCount 0 (sA w1 (53 + 8 * 0 + 1) p1.toNatClampNeg r1) 0 1 (fun w2 => wp_X7_addToCount 0 w2 1 p3 (fun w3 => wp_X7_finishAct 0 w3 0 p1 p2 p3 (fun w4 => Post w4))))))
set_option maxHeartbeats 4000000 in
set_option maxRecDepth 100000 in
theorem mt_X0_makeStep (l : Launch) {E : En} (hI : Inj E) (hF : ∀ o, (o < 15 ∨ 27 ≤ o ∧ o < 157) → o ∈ eL E) (w : Wd) (p1 : Int32) (p2 : Int32) (p3 : Int32) {Post : Wd → Prop} (h : wp_X0_makeStep w p1 p2 p3 Post) : MV l E yX0_makeStep cX0_makeStep 4 none 2 48 [.ref (eA E 3), .int p1, .int p2, .int p3] w Post := by
  refine MG.intro hI (by decide +kernel) (Nat.le_of_ble_eq_true rfl) ?_
  intro p e s m args below meth c Q C hr hlk hQ hw ls hl
  have hx := C.1
  have hb := C.2.1
  have hl : lv_has ls 4 [(0, .ref (eA E 3)), (1, .int p1), (2, .int p2), (3, .int p3)] := hl
  unfold wp_X0_makeStep at h
  refine lv_aload_n hx hb dX0_makeStep_0 rfl (lv_at hl 0 rfl) ?_
  refine g0_1 C hw (hF 3 (by decide)) K_f_X0_21 dX0_makeStep_1 ?_
  refine g7_0 C hw 0 (show 0 < 13 by decide) (hF _ (by have := (show 0 < 13 by decide); omega)) K_f_X0_72 dX0_makeStep_4 ?_
  refine lv_iload_n hx hb dX0_makeStep_7 rfl (lv_at hl 1 rfl) ?_
  refine lv_aload_n hx hb dX0_makeStep_8 rfl (lv_at hl 0 rfl) ?_
  refine g0_1 C hw (hF 3 (by decide)) K_f_X0_21 dX0_makeStep_9 ?_
  refine g7_0 C hw 0 (show 0 < 13 by decide) (hF _ (by have := (show 0 < 13 by decide); omega)) K_f_X0_72 dX0_makeStep_12 ?_
  refine lv_iload_n hx hb dX0_makeStep_15 rfl (lv_at hl 1 rfl) ?_
  obtain ⟨hi1, h⟩ := h
  refine r_iald C hw (53 + 8 * 0 + 1) 6 (hF _ (by have := (show 0 < 13 by decide); omega)) (ce_sta 1 (show 0 < 13 by decide) (by decide) (by decide)) hi1 dX0_makeStep_16 ?_
  refine lv_iload_n hx hb dX0_makeStep_17 rfl (lv_at hl 2 rfl) ?_
  refine lv_iload_n hx hb dX0_makeStep_18 rfl (lv_at hl 2 rfl) ?_
  refine lv_iload_n hx hb dX0_makeStep_19 rfl (lv_at hl 3 rfl) ?_
  refine lv_isub hx hb dX0_makeStep_20 ?_
  refine done_i hw (my_runSN (As := [.int (gA w (53 + 8 * 0 + 1) p1.toNatClampNeg), .int p2, .int (p2 - p3)]) (rest := [.int p1, .ref (eA E ((53 + 8 * 0 + 1)))]) C hw (mt_X8_moved l C.2.2.2.2.2.2.2 _ _ _ _ h) nw_X0_136 K_s_X8_moved K_n_X8 K_c_X8_moved hy_X8_moved ⟨Nat.le_of_ble_eq_true rfl, Nat.le_of_ble_eq_true rfl⟩ hl.1 rfl (Nat.le_of_ble_eq_true rfl) dX0_makeStep_21 ⟨Nat.zero_le _, Nat.zero_le _⟩) (fun r1 w1 H locs h hw => ?_)
  obtain ⟨hi2, h⟩ := h
  refine r_iast C hw (53 + 8 * 0 + 1) 6 (hF _ (by have := (show 0 < 13 by decide); omega)) (fun _ => ce_sta 1 (show 0 < 13 by decide) (by decide) (by decide)) hi2 dX0_makeStep_24 (fun H locs hw => ?_)
  refine lv_aload_n hx hb dX0_makeStep_25 rfl (lv_at hl 0 rfl) ?_
  refine g0_1 C hw (hF 3 (by decide)) K_f_X0_21 dX0_makeStep_26 ?_
  refine lv_iconst (v := 0) hx hb dX0_makeStep_29 (by decide) ?_
  refine lv_iconst (v := 1) hx hb dX0_makeStep_30 (by decide) ?_
  refine done_v hw (my_runV (As := [.int 0, .int 1]) (rest := []) C hw (53 + 8 * 0) 7 (hF _ (by have := (show 0 < 13 by decide); omega)) (ce_st (show 0 < 13 by decide)) rfl (mt_X7_addToCount l C.2.2.2.2.2.2.2 hF 0 (show 0 < 13 by decide) _ _ _ h) K_m_X0_165 K_i_X7_addToCount K_v_X7_addToCount K_n_X7 K_c_X7_addToCount hy_X7_addToCount ⟨Nat.le_of_ble_eq_true rfl, Nat.le_of_ble_eq_true rfl⟩ hl.1 rfl (Nat.le_of_ble_eq_true rfl) dX0_makeStep_31 ⟨Nat.zero_le _, Nat.zero_le _⟩) (fun w2 H locs h hw => ?_)
  refine lv_aload_n hx hb dX0_makeStep_34 rfl (lv_at hl 0 rfl) ?_
  refine g0_1 C hw (hF 3 (by decide)) K_f_X0_21 dX0_makeStep_35 ?_
  refine lv_iconst (v := 1) hx hb dX0_makeStep_38 (by decide) ?_
  refine lv_iload_n hx hb dX0_makeStep_39 rfl (lv_at hl 3 rfl) ?_
  refine done_v hw (my_runV (As := [.int 1, .int p3]) (rest := []) C hw (53 + 8 * 0) 7 (hF _ (by have := (show 0 < 13 by decide); omega)) (ce_st (show 0 < 13 by decide)) rfl (mt_X7_addToCount l C.2.2.2.2.2.2.2 hF 0 (show 0 < 13 by decide) _ _ _ h) K_m_X0_165 K_i_X7_addToCount K_v_X7_addToCount K_n_X7 K_c_X7_addToCount hy_X7_addToCount ⟨Nat.le_of_ble_eq_true rfl, Nat.le_of_ble_eq_true rfl⟩ hl.1 rfl (Nat.le_of_ble_eq_true rfl) dX0_makeStep_40 ⟨Nat.zero_le _, Nat.zero_le _⟩) (fun w3 H locs h hw => ?_)
  refine lv_aload_n hx hb dX0_makeStep_43 rfl (lv_at hl 0 rfl) ?_
  refine g0_1 C hw (hF 3 (by decide)) K_f_X0_21 dX0_makeStep_44 ?_
  refine lv_iconst (v := 0) hx hb dX0_makeStep_47 (by decide) ?_
  refine lv_iload_n hx hb dX0_makeStep_48 rfl (lv_at hl 1 rfl) ?_
  refine lv_iload_n hx hb dX0_makeStep_49 rfl (lv_at hl 2 rfl) ?_
  refine lv_iload_n hx hb dX0_makeStep_50 rfl (lv_at hl 3 rfl) ?_
  refine done_v hw (my_runV (As := [.int 0, .int p1, .int p2, .int p3]) (rest := []) C hw (53 + 8 * 0) 7 (hF _ (by have := (show 0 < 13 by decide); omega)) (ce_st (show 0 < 13 by decide)) rfl (mt_X7_finishAct l C.2.2.2.2.2.2.2 hF 0 (show 0 < 13 by decide) _ _ _ _ _ h) K_m_X0_169 K_i_X7_finishAct K_v_X7_finishAct K_n_X7 K_c_X7_finishAct hy_X7_finishAct ⟨Nat.le_of_ble_eq_true rfl, Nat.le_of_ble_eq_true rfl⟩ hl.1 rfl (Nat.le_of_ble_eq_true rfl) dX0_makeStep_51 ⟨Nat.zero_le _, Nat.zero_le _⟩) (fun w4 H locs h hw => ?_)
  rw [hQ]
  exact ret_v C hr hlk hw h dX0_makeStep_54
theorem hy_X0_makePass : yX0_makePass.cls ≠ "java/lang/invoke/MethodHandle" ∧ yX0_makePass.cls ≠ "java/lang/invoke/VarHandle" ∧ (parseMethodDescriptor yX0_makePass.desc).map (fun d => d.parameters.length) = some 0 := by decide +kernel
def wp_X0_makePass (w : Wd) (Post : Wd → Prop) : Prop :=
  wp_X7_addToCount 0 w 2 1 (fun w1 => wp_X7_finishAct 0 w1 4 ((-1)) ((-1)) ((-1)) (fun w2 => Post w2))
set_option maxHeartbeats 4000000 in
set_option maxRecDepth 100000 in
theorem mt_X0_makePass (l : Launch) {E : En} (hI : Inj E) (hF : ∀ o, (o < 15 ∨ 27 ≤ o ∧ o < 157) → o ∈ eL E) (w : Wd) {Post : Wd → Prop} (h : wp_X0_makePass w Post) : MV l E yX0_makePass cX0_makePass 1 none 2 48 [.ref (eA E 3)] w Post := by
  refine MG.intro hI (by decide +kernel) (Nat.le_of_ble_eq_true rfl) ?_
  intro p e s m args below meth c Q C hr hlk hQ hw ls hl
  have hx := C.1
  have hb := C.2.1
  have hl : lv_has ls 1 [(0, .ref (eA E 3))] := hl
  unfold wp_X0_makePass at h
  refine lv_aload_n hx hb dX0_makePass_0 rfl (lv_at hl 0 rfl) ?_
  refine g0_1 C hw (hF 3 (by decide)) K_f_X0_21 dX0_makePass_1 ?_
  refine lv_iconst (v := 2) hx hb dX0_makePass_4 (by decide) ?_
  refine lv_iconst (v := 1) hx hb dX0_makePass_5 (by decide) ?_
  refine done_v hw (my_runV (As := [.int 2, .int 1]) (rest := []) C hw (53 + 8 * 0) 7 (hF _ (by have := (show 0 < 13 by decide); omega)) (ce_st (show 0 < 13 by decide)) rfl (mt_X7_addToCount l C.2.2.2.2.2.2.2 hF 0 (show 0 < 13 by decide) _ _ _ h) K_m_X0_165 K_i_X7_addToCount K_v_X7_addToCount K_n_X7 K_c_X7_addToCount hy_X7_addToCount ⟨Nat.le_of_ble_eq_true rfl, Nat.le_of_ble_eq_true rfl⟩ hl.1 rfl (Nat.le_of_ble_eq_true rfl) dX0_makePass_6 ⟨Nat.zero_le _, Nat.zero_le _⟩) (fun w1 H locs h hw => ?_)
  refine lv_aload_n hx hb dX0_makePass_9 rfl (lv_at hl 0 rfl) ?_
  refine g0_1 C hw (hF 3 (by decide)) K_f_X0_21 dX0_makePass_10 ?_
  refine lv_iconst (v := 4) hx hb dX0_makePass_13 (by decide) ?_
  refine lv_iconst (v := (-1)) hx hb dX0_makePass_14 (by decide) ?_
  refine lv_iconst (v := (-1)) hx hb dX0_makePass_15 (by decide) ?_
  refine lv_iconst (v := (-1)) hx hb dX0_makePass_16 (by decide) ?_
  refine done_v hw (my_runV (As := [.int 4, .int ((-1)), .int ((-1)), .int ((-1))]) (rest := []) C hw (53 + 8 * 0) 7 (hF _ (by have := (show 0 < 13 by decide); omega)) (ce_st (show 0 < 13 by decide)) rfl (mt_X7_finishAct l C.2.2.2.2.2.2.2 hF 0 (show 0 < 13 by decide) _ _ _ _ _ h) K_m_X0_169 K_i_X7_finishAct K_v_X7_finishAct K_n_X7 K_c_X7_finishAct hy_X7_finishAct ⟨Nat.le_of_ble_eq_true rfl, Nat.le_of_ble_eq_true rfl⟩ hl.1 rfl (Nat.le_of_ble_eq_true rfl) dX0_makePass_17 ⟨Nat.zero_le _, Nat.zero_le _⟩) (fun w2 H locs h hw => ?_)
  rw [hQ]
  exact ret_v C hr hlk hw h dX0_makePass_20
theorem hy_X0_makeBestOrPass : yX0_makeBestOrPass.cls ≠ "java/lang/invoke/MethodHandle" ∧ yX0_makeBestOrPass.cls ≠ "java/lang/invoke/VarHandle" ∧ (parseMethodDescriptor yX0_makeBestOrPass.desc).map (fun d => d.parameters.length) = some 2 := by decide +kernel
def wp_X0_makeBestOrPass (w : Wd) (p1 : Int32) (p2 : Int32) (Post : Wd → Prop) : Prop :=
  (p1 = 0 → (wp_X0_makePass w (fun w5 => Post w5))) ∧ (¬ p1 = 0 → (vp_in (if p2 < 0 then 0 else p2) 72 ∧ (∀ y1 : Int32, y1 = gA w 4 ((if p2 < 0 then 0 else p2).toNatClampNeg) → (wp_X0_ladderOf w y1 (fun r1 w1 => wp_X0_heightOf w1 y1 (fun r2 w2 => wp_X0_sizeOf w2 y1 (fun r3 w3 => wp_X0_makeStep w3 r1 r2 r3 (fun w4 => Post w4))))))))
set_option maxHeartbeats 4000000 in
set_option maxRecDepth 100000 in
theorem mt_X0_makeBestOrPass (l : Launch) {E : En} (hI : Inj E) (hF : ∀ o, (o < 15 ∨ 27 ≤ o ∧ o < 157) → o ∈ eL E) (w : Wd) (p1 : Int32) (p2 : Int32) {Post : Wd → Prop} (h : wp_X0_makeBestOrPass w p1 p2 Post) : MV l E yX0_makeBestOrPass cX0_makeBestOrPass 4 none 3 71 [.ref (eA E 3), .int p1, .int p2] w Post := by
  refine MG.intro hI (by decide +kernel) (Nat.le_of_ble_eq_true rfl) ?_
  intro p e s m args below meth c Q C hr hlk hQ hw ls hl
  have hx := C.1
  have hb := C.2.1
  have hl : lv_has ls 4 [(0, .ref (eA E 3)), (1, .int p1), (2, .int p2)] := hl
  unfold wp_X0_makeBestOrPass at h
  refine lv_iload_n hx hb dX0_makeBestOrPass_0 rfl (lv_at hl 1 rfl) ?_
  refine lv_if_ne (tgt := 9) hx hb dX0_makeBestOrPass_1 (by decide) (fun c1 => ?_) (fun c1 => ?_)
  · have h := h.2 c1
    refine lv_aload_n hx hb dX0_makeBestOrPass_9 rfl (lv_at hl 0 rfl) ?_
    refine g0_3 C hw (hF 3 (by decide)) K_f_X0_32 dX0_makeBestOrPass_10 ?_
    refine lv_iload_n hx hb dX0_makeBestOrPass_13 rfl (lv_at hl 2 rfl) ?_
    refine lv_iconst (v := 0) hx hb dX0_makeBestOrPass_14 (by decide) ?_
    refine r_max C hl.1 K_m_X0_186 ⟨Nat.le_of_ble_eq_true rfl, Nat.le_of_ble_eq_true rfl⟩ ⟨Nat.zero_le _, Nat.zero_le _⟩ dX0_makeBestOrPass_15 ?_
    obtain ⟨hi1, h⟩ := h
    refine r_iald C hw 4 72 (hF 4 (by decide)) rfl hi1 dX0_makeBestOrPass_18 ?_
    refine lv_topi (fun y1 ey1 => ?_)
    have h := h y1 ey1
    refine lv_istore_n (lv' := [(3, .int y1), (0, .ref (eA E 3)), (1, .int p1), (2, .int p2)]) hx hb dX0_makeBestOrPass_19 rfl hl (by decide) rfl (fun ls hl => ?_)
    refine lv_aload_n hx hb dX0_makeBestOrPass_20 rfl (lv_at hl 1 rfl) ?_
    refine lv_iload_n hx hb dX0_makeBestOrPass_21 rfl (lv_at hl 0 rfl) ?_
    refine done_i hw (my_runS (As := [.int y1]) (rest := [.ref (eA E 3)]) C hw (mt_X0_ladderOf l C.2.2.2.2.2.2.2 hF _ _ h) K_m_X0_127 K_s_X0_ladderOf K_n_X0 K_c_X0_ladderOf hy_X0_ladderOf ⟨Nat.le_of_ble_eq_true rfl, Nat.le_of_ble_eq_true rfl⟩ hl.1 rfl (Nat.le_of_ble_eq_true rfl) dX0_makeBestOrPass_22 ⟨Nat.zero_le _, Nat.zero_le _⟩) (fun r1 w1 H locs h hw => ?_)
    refine lv_iload_n hx hb dX0_makeBestOrPass_25 rfl (lv_at hl 0 rfl) ?_
    refine done_i hw (my_runS (As := [.int y1]) (rest := [.int r1, .ref (eA E 3)]) C hw (mt_X0_heightOf l C.2.2.2.2.2.2.2 hF _ _ h) K_m_X0_130 K_s_X0_heightOf K_n_X0 K_c_X0_heightOf hy_X0_heightOf ⟨Nat.le_of_ble_eq_true rfl, Nat.le_of_ble_eq_true rfl⟩ hl.1 rfl (Nat.le_of_ble_eq_true rfl) dX0_makeBestOrPass_26 ⟨Nat.zero_le _, Nat.zero_le _⟩) (fun r2 w2 H locs h hw => ?_)
    refine lv_iload_n hx hb dX0_makeBestOrPass_29 rfl (lv_at hl 0 rfl) ?_
    refine done_i hw (my_runS (As := [.int y1]) (rest := [.int r2, .int r1, .ref (eA E 3)]) C hw (mt_X0_sizeOf l C.2.2.2.2.2.2.2 hF _ _ h) K_m_X0_133 K_s_X0_sizeOf K_n_X0 K_c_X0_sizeOf hy_X0_sizeOf ⟨Nat.le_of_ble_eq_true rfl, Nat.le_of_ble_eq_true rfl⟩ hl.1 rfl (Nat.le_of_ble_eq_true rfl) dX0_makeBestOrPass_30 ⟨Nat.zero_le _, Nat.zero_le _⟩) (fun r3 w3 H locs h hw => ?_)
    refine done_v hw (my_runV (As := [.int r1, .int r2, .int r3]) (rest := []) C hw 3 0 (hF 3 (by decide)) rfl rfl (mt_X0_makeStep l C.2.2.2.2.2.2.2 hF _ _ _ _ h) K_m_X0_191 K_i_X0_makeStep K_v_X0_makeStep K_n_X0 K_c_X0_makeStep hy_X0_makeStep ⟨Nat.le_of_ble_eq_true rfl, Nat.le_of_ble_eq_true rfl⟩ hl.1 rfl (Nat.le_of_ble_eq_true rfl) dX0_makeBestOrPass_33 ⟨Nat.zero_le _, Nat.zero_le _⟩) (fun w4 H locs h hw => ?_)
    rw [hQ]
    exact ret_v C hr hlk hw h dX0_makeBestOrPass_36
  · have h := h.1 c1
    refine lv_aload_n hx hb dX0_makeBestOrPass_4 rfl (lv_at hl 0 rfl) ?_
    refine done_v hw (my_runV (As := []) (rest := []) C hw 3 0 (hF 3 (by decide)) rfl rfl (mt_X0_makePass l C.2.2.2.2.2.2.2 hF _ h) K_m_X0_183 K_i_X0_makePass K_v_X0_makePass K_n_X0 K_c_X0_makePass hy_X0_makePass ⟨Nat.le_of_ble_eq_true rfl, Nat.le_of_ble_eq_true rfl⟩ hl.1 rfl (Nat.le_of_ble_eq_true rfl) dX0_makeBestOrPass_5 ⟨Nat.zero_le _, Nat.zero_le _⟩) (fun w5 H locs h hw => ?_)
    rw [hQ]
    exact ret_v C hr hlk hw h dX0_makeBestOrPass_8
theorem hy_X1_addFour : yX1_addFour.cls ≠ "java/lang/invoke/MethodHandle" ∧ yX1_addFour.cls ≠ "java/lang/invoke/VarHandle" ∧ (parseMethodDescriptor yX1_addFour.desc).map (fun d => d.parameters.length) = some 1 := by decide +kernel
def wp_X1_addFour (w : Wd) (p1 : Int32) (Post : Wd → Prop) : Prop :=
  ∀ J3 : Int32 → Wd → Prop, (∀ (x2 : Int32) (w : Wd), ((x2 < 0 → (Post w)) ∧ (¬ x2 < 0 → ((400 ≤ (gI w 1 1) → (Post w)) ∧ (¬ 400 ≤ (gI w 1 1) → (∀ y1 : Int32, y1 = (p1 >>> (x2 &&& 31)).toInt8.toInt32 → (vp_in (gI w 1 1) 400 ∧ (∀ y2 : Int32, y2 = (gI (sA w 2 ((gI w 1 1).toNatClampNeg) (vp_nar .byte y1)) 1 1) + 1 → (∀ y3 : Int32, y3 = x2 + (-8) → (J3 y3 (sI (sA w 2 ((gI w 1 1).toNatClampNeg) (vp_nar .byte y1)) 1 1 y2)))))))))) → J3 x2 w) →
  J3 24 w
set_option maxHeartbeats 4000000 in
set_option maxRecDepth 100000 in
theorem mt_X1_addFour (l : Launch) {E : En} (hI : Inj E) (hF : ∀ o, (o < 15 ∨ 27 ≤ o ∧ o < 157) → o ∈ eL E) (w : Wd) (p1 : Int32) {Post : Wd → Prop} (h : wp_X1_addFour w p1 Post) : MV l E yX1_addFour cX1_addFour 3 none 0 0 [.ref (eA E 1), .int p1] w Post := by
  refine MG.intro hI (by decide +kernel) (Nat.le_of_ble_eq_true rfl) ?_
  intro p e s m args below meth c Q C hr hlk hQ hw ls hl
  have hx := C.1
  have hb := C.2.1
  have hl : lv_has ls 3 [(0, .ref (eA E 1)), (1, .int p1)] := hl
  unfold wp_X1_addFour at h
  have h := h (fun x2 w => Jp E p l e (Rm 0 0) s m args below meth c Q 3 3 [(0, .ref (eA E 1)), (1, .int p1), (2, .int x2)] w)
  have h := h ?_
  rotate_left
  · intro x2 w h H locs hw ls hl
    refine lv_iload_n hx hb dX1_addFour_3 rfl (lv_at hl 2 rfl) ?_
    refine lv_if_lt (tgt := 46) hx hb dX1_addFour_4 (by decide) (fun c1 => ?_) (fun c1 => ?_)
    · have h := h.1 c1
      rw [hQ]
      exact ret_v C hr hlk hw h dX1_addFour_46
    · have h := h.2 c1
      refine lv_aload_n hx hb dX1_addFour_7 rfl (lv_at hl 0 rfl) ?_
      refine g1_1 C hw (hF 1 (by decide)) K_f_X1_22 dX1_addFour_8 ?_
      refine lv_sipush (v := 400) hx hb dX1_addFour_11 (by decide) ?_
      refine lv_icmp_ge (tgt := 46) hx hb dX1_addFour_14 (by decide) (fun c2 => ?_) (fun c2 => ?_)
      · have h := h.1 c2
        rw [hQ]
        exact ret_v C hr hlk hw h dX1_addFour_46
      · have h := h.2 c2
        refine lv_aload_n hx hb dX1_addFour_17 rfl (lv_at hl 0 rfl) ?_
        refine g1_2 C hw (hF 1 (by decide)) K_f_X1_18 dX1_addFour_18 ?_
        refine lv_aload_n hx hb dX1_addFour_21 rfl (lv_at hl 0 rfl) ?_
        refine g1_1 C hw (hF 1 (by decide)) K_f_X1_22 dX1_addFour_22 ?_
        refine lv_iload_n hx hb dX1_addFour_25 rfl (lv_at hl 1 rfl) ?_
        refine lv_iload_n hx hb dX1_addFour_26 rfl (lv_at hl 2 rfl) ?_
        refine lv_ishr hx hb dX1_addFour_27 ?_
        refine lv_i2b hx hb dX1_addFour_28 rfl ?_
        refine lv_topi (fun y1 ey1 => ?_)
        have h := h y1 ey1
        obtain ⟨hi1, h⟩ := h
        refine r_bast C hw 2 400 (hF 2 (by decide)) (fun _ => rfl) hi1 dX1_addFour_29 (fun H locs hw => ?_)
        refine lv_aload_n hx hb dX1_addFour_30 rfl (lv_at hl 0 rfl) ?_
        refine lv_dup hx hb dX1_addFour_31 rfl ?_
        refine g1_1 C hw (hF 1 (by decide)) K_f_X1_22 dX1_addFour_32 ?_
        refine lv_iconst (v := 1) hx hb dX1_addFour_35 (by decide) ?_
        refine lv_iadd hx hb dX1_addFour_36 ?_
        refine lv_topi (fun y2 ey2 => ?_)
        have h := h y2 ey2
        refine p1_1 C hw (hF 1 (by decide)) K_f_X1_22 dX1_addFour_37 (fun H locs hw => ?_)
        obtain ⟨y3, ey3⟩ : ∃ y : Int32, y = x2 + (-8) := ⟨_, rfl⟩
        have h := h y3 ey3
        refine lv_iinc (v := y3) (lv' := [(2, .int y3), (0, .ref (eA E 1)), (1, .int p1)]) hx hb dX1_addFour_40 hl (k := 2) rfl (by rw [ey3]; first | rfl | decide) (by decide) rfl (fun ls hl => ?_)
        refine lv_goto (tgt := 3) hx hb dX1_addFour_43 (by decide) ?_
        exact h _ _ hw _ (lv_sub hl [1, 2, 0] rfl)
  refine lv_bipush (v := 24) hx hb dX1_addFour_0 (by decide) ?_
  refine lv_istore_n (lv' := [(2, .int 24), (0, .ref (eA E 1)), (1, .int p1)]) hx hb dX1_addFour_2 rfl hl (by decide) rfl (fun ls hl => ?_)
  exact h _ _ hw _ (lv_sub hl [1, 2, 0] rfl)
theorem hy_X1_isWhite : yX1_isWhite.cls ≠ "java/lang/invoke/MethodHandle" ∧ yX1_isWhite.cls ≠ "java/lang/invoke/VarHandle" ∧ (parseMethodDescriptor yX1_isWhite.desc).map (fun d => d.parameters.length) = some 1 := by decide +kernel
def wp_X1_isWhite (w : Wd) (p0 : Int32) (Post : Int32 → Wd → Prop) : Prop :=
  (p0 = 32 → (Post 1 w)) ∧ (¬ p0 = 32 → ((p0 = 10 → (Post 1 w)) ∧ (¬ p0 = 10 → (Post 0 w))))
set_option maxHeartbeats 4000000 in
set_option maxRecDepth 100000 in
theorem mt_X1_isWhite (l : Launch) {E : En} (hI : Inj E) (hF : ∀ o, (o < 15 ∨ 27 ≤ o ∧ o < 157) → o ∈ eL E) (w : Wd) (p0 : Int32) {Post : Int32 → Wd → Prop} (h : wp_X1_isWhite w p0 Post) : MI l E yX1_isWhite cX1_isWhite 1 (some .boolean) 0 0 [.int p0] w Post := by
  refine MG.intro hI (by decide +kernel) (Nat.le_of_ble_eq_true rfl) ?_
  intro p e s m args below meth c Q C hr hlk hQ hw ls hl
  have hx := C.1
  have hb := C.2.1
  have hl : lv_has ls 1 [(0, .int p0)] := hl
  unfold wp_X1_isWhite at h
  refine lv_iload_n hx hb dX1_isWhite_0 rfl (lv_at hl 0 rfl) ?_
  refine lv_bipush (v := 32) hx hb dX1_isWhite_1 (by decide) ?_
  refine lv_icmp_eq (tgt := 12) hx hb dX1_isWhite_3 (by decide) (fun c1 => ?_) (fun c1 => ?_)
  · have h := h.1 c1
    refine lv_iconst (v := 1) hx hb dX1_isWhite_12 (by decide) ?_
    refine lv_goto (tgt := 17) hx hb dX1_isWhite_13 (by decide) ?_
    rw [hQ]
    exact ret_z C hr hlk hw h (by decide) dX1_isWhite_17
  · have h := h.2 c1
    refine lv_iload_n hx hb dX1_isWhite_6 rfl (lv_at hl 0 rfl) ?_
    refine lv_bipush (v := 10) hx hb dX1_isWhite_7 (by decide) ?_
    refine lv_icmp_ne (tgt := 16) hx hb dX1_isWhite_9 (by decide) (fun c2 => ?_) (fun c2 => ?_)
    · have h := h.2 c2
      refine lv_iconst (v := 0) hx hb dX1_isWhite_16 (by decide) ?_
      rw [hQ]
      exact ret_z C hr hlk hw h (by decide) dX1_isWhite_17
    · have h := h.1 c2
      refine lv_iconst (v := 1) hx hb dX1_isWhite_12 (by decide) ?_
      refine lv_goto (tgt := 17) hx hb dX1_isWhite_13 (by decide) ?_
      rw [hQ]
      exact ret_z C hr hlk hw h (by decide) dX1_isWhite_17
theorem hy_X1_isLetter : yX1_isLetter.cls ≠ "java/lang/invoke/MethodHandle" ∧ yX1_isLetter.cls ≠ "java/lang/invoke/VarHandle" ∧ (parseMethodDescriptor yX1_isLetter.desc).map (fun d => d.parameters.length) = some 1 := by decide +kernel
def wp_X1_isLetter (w : Wd) (p0 : Int32) (Post : Int32 → Wd → Prop) : Prop :=
  (p0 < 97 → (Post 0 w)) ∧ (¬ p0 < 97 → ((122 < p0 → (Post 0 w)) ∧ (¬ 122 < p0 → (Post 1 w))))
set_option maxHeartbeats 4000000 in
set_option maxRecDepth 100000 in
theorem mt_X1_isLetter (l : Launch) {E : En} (hI : Inj E) (hF : ∀ o, (o < 15 ∨ 27 ≤ o ∧ o < 157) → o ∈ eL E) (w : Wd) (p0 : Int32) {Post : Int32 → Wd → Prop} (h : wp_X1_isLetter w p0 Post) : MI l E yX1_isLetter cX1_isLetter 1 (some .boolean) 0 0 [.int p0] w Post := by
  refine MG.intro hI (by decide +kernel) (Nat.le_of_ble_eq_true rfl) ?_
  intro p e s m args below meth c Q C hr hlk hQ hw ls hl
  have hx := C.1
  have hb := C.2.1
  have hl : lv_has ls 1 [(0, .int p0)] := hl
  unfold wp_X1_isLetter at h
  refine lv_iload_n hx hb dX1_isLetter_0 rfl (lv_at hl 0 rfl) ?_
  refine lv_bipush (v := 97) hx hb dX1_isLetter_1 (by decide) ?_
  refine lv_icmp_lt (tgt := 16) hx hb dX1_isLetter_3 (by decide) (fun c1 => ?_) (fun c1 => ?_)
  · have h := h.1 c1
    refine lv_iconst (v := 0) hx hb dX1_isLetter_16 (by decide) ?_
    rw [hQ]
    exact ret_z C hr hlk hw h (by decide) dX1_isLetter_17
  · have h := h.2 c1
    refine lv_iload_n hx hb dX1_isLetter_6 rfl (lv_at hl 0 rfl) ?_
    refine lv_bipush (v := 122) hx hb dX1_isLetter_7 (by decide) ?_
    refine lv_icmp_gt (tgt := 16) hx hb dX1_isLetter_9 (by decide) (fun c2 => ?_) (fun c2 => ?_)
    · have h := h.1 c2
      refine lv_iconst (v := 0) hx hb dX1_isLetter_16 (by decide) ?_
      rw [hQ]
      exact ret_z C hr hlk hw h (by decide) dX1_isLetter_17
    · have h := h.2 c2
      refine lv_iconst (v := 1) hx hb dX1_isLetter_12 (by decide) ?_
      refine lv_goto (tgt := 17) hx hb dX1_isLetter_13 (by decide) ?_
      rw [hQ]
      exact ret_z C hr hlk hw h (by decide) dX1_isLetter_17
theorem hy_X1_isDigit : yX1_isDigit.cls ≠ "java/lang/invoke/MethodHandle" ∧ yX1_isDigit.cls ≠ "java/lang/invoke/VarHandle" ∧ (parseMethodDescriptor yX1_isDigit.desc).map (fun d => d.parameters.length) = some 1 := by decide +kernel
def wp_X1_isDigit (w : Wd) (p0 : Int32) (Post : Int32 → Wd → Prop) : Prop :=
  (p0 < 48 → (Post 0 w)) ∧ (¬ p0 < 48 → ((57 < p0 → (Post 0 w)) ∧ (¬ 57 < p0 → (Post 1 w))))
set_option maxHeartbeats 4000000 in
set_option maxRecDepth 100000 in
theorem mt_X1_isDigit (l : Launch) {E : En} (hI : Inj E) (hF : ∀ o, (o < 15 ∨ 27 ≤ o ∧ o < 157) → o ∈ eL E) (w : Wd) (p0 : Int32) {Post : Int32 → Wd → Prop} (h : wp_X1_isDigit w p0 Post) : MI l E yX1_isDigit cX1_isDigit 1 (some .boolean) 0 0 [.int p0] w Post := by
  refine MG.intro hI (by decide +kernel) (Nat.le_of_ble_eq_true rfl) ?_
  intro p e s m args below meth c Q C hr hlk hQ hw ls hl
  have hx := C.1
  have hb := C.2.1
  have hl : lv_has ls 1 [(0, .int p0)] := hl
  unfold wp_X1_isDigit at h
  refine lv_iload_n hx hb dX1_isDigit_0 rfl (lv_at hl 0 rfl) ?_
  refine lv_bipush (v := 48) hx hb dX1_isDigit_1 (by decide) ?_
  refine lv_icmp_lt (tgt := 16) hx hb dX1_isDigit_3 (by decide) (fun c1 => ?_) (fun c1 => ?_)
  · have h := h.1 c1
    refine lv_iconst (v := 0) hx hb dX1_isDigit_16 (by decide) ?_
    rw [hQ]
    exact ret_z C hr hlk hw h (by decide) dX1_isDigit_17
  · have h := h.2 c1
    refine lv_iload_n hx hb dX1_isDigit_6 rfl (lv_at hl 0 rfl) ?_
    refine lv_bipush (v := 57) hx hb dX1_isDigit_7 (by decide) ?_
    refine lv_icmp_gt (tgt := 16) hx hb dX1_isDigit_9 (by decide) (fun c2 => ?_) (fun c2 => ?_)
    · have h := h.1 c2
      refine lv_iconst (v := 0) hx hb dX1_isDigit_16 (by decide) ?_
      rw [hQ]
      exact ret_z C hr hlk hw h (by decide) dX1_isDigit_17
    · have h := h.2 c2
      refine lv_iconst (v := 1) hx hb dX1_isDigit_12 (by decide) ?_
      refine lv_goto (tgt := 17) hx hb dX1_isDigit_13 (by decide) ?_
      rw [hQ]
      exact ret_z C hr hlk hw h (by decide) dX1_isDigit_17
theorem hy_X1_nextToken : yX1_nextToken.cls ≠ "java/lang/invoke/MethodHandle" ∧ yX1_nextToken.cls ≠ "java/lang/invoke/VarHandle" ∧ (parseMethodDescriptor yX1_nextToken.desc).map (fun d => d.parameters.length) = some 0 := by decide +kernel
def wp_X1_nextToken (w : Wd) (Post : Wd → Prop) : Prop :=
  ∀ J0 : Wd → Prop, ∀ J166 : Wd → Prop, ∀ J81 : Wd → Prop, (∀ (w : Wd), (((gI w 1 3) ≤ (gI w 1 4) → (∀ y1 : Int32, y1 = gI w 1 4 → (((gI (sI w 1 6 y1) 1 4) < (gI (sI w 1 6 y1) 1 3) → (vp_in (gI (sI w 1 6 y1) 1 4) 400 ∧ (wp_X1_isLetter (sI w 1 6 y1) (gA (sI w 1 6 y1) 2 ((gI (sI w 1 6 y1) 1 4).toNatClampNeg)) (fun r1 w1 => (r1 = 0 → (vp_in (gI w1 1 4) 400 ∧ (wp_X1_isDigit w1 (gA w1 2 ((gI w1 1 4).toNatClampNeg)) (fun r2 w2 => (r2 = 0 → (vp_in (gI w2 1 4) 400 ∧ (((gA w2 2 ((gI w2 1 4).toNatClampNeg)) = 59 → (∀ y3 : Int32, y3 = (gI (sI w2 1 5 4) 1 4) + 1 → (Post (sI (sI w2 1 5 4) 1 4 y3)))) ∧ (¬ (gA w2 2 ((gI w2 1 4).toNatClampNeg)) = 59 → (∀ y2 : Int32, y2 = (gI (sI w2 1 5 1) 1 4) + 1 → (Post (sI (sI w2 1 5 1) 1 4 y2))))))) ∧ (¬ r2 = 0 → (J166 (sI w2 1 7 0))))))) ∧ (¬ r1 = 0 → (J81 w1)))))) ∧ (¬ (gI (sI w 1 6 y1) 1 4) < (gI (sI w 1 6 y1) 1 3) → (Post (sI (sI w 1 6 y1) 1 5 0)))))) ∧ (¬ (gI w 1 3) ≤ (gI w 1 4) → (vp_in (gI w 1 4) 400 ∧ (wp_X1_isWhite w (gA w 2 ((gI w 1 4).toNatClampNeg)) (fun r3 w3 => (r3 = 0 → (∀ y4 : Int32, y4 = gI w3 1 4 → (((gI (sI w3 1 6 y4) 1 4) < (gI (sI w3 1 6 y4) 1 3) → (vp_in (gI (sI w3 1 6 y4) 1 4) 400 ∧ (wp_X1_isLetter (sI w3 1 6 y4) (gA (sI w3 1 6 y4) 2 ((gI (sI w3 1 6 y4) 1 4).toNatClampNeg)) (fun r4 w4 => (r4 = 0 → (vp_in (gI w4 1 4) 400 ∧ (wp_X1_isDigit w4 (gA w4 2 ((gI w4 1 4).toNatClampNeg)) (fun r5 w5 => (r5 = 0 → (vp_in (gI w5 1 4) 400 ∧ (((gA w5 2 ((gI w5 1 4).toNatClampNeg)) = 59 → (∀ y6 : Int32, y6 = (gI (sI w5 1 5 4) 1 4) + 1 → (Post (sI (sI w5 1 5 4) 1 4 y6)))) ∧ (¬ (gA w5 2 ((gI w5 1 4).toNatClampNeg)) = 59 → (∀ y5 : Int32, y5 = (gI (sI w5 1 5 1) 1 4) + 1 → (Post (sI (sI w5 1 5 1) 1 4 y5))))))) ∧ (¬ r5 = 0 → (J166 (sI w5 1 7 0))))))) ∧ (¬ r4 = 0 → (J81 w4)))))) ∧ (¬ (gI (sI w3 1 6 y4) 1 4) < (gI (sI w3 1 6 y4) 1 3) → (Post (sI (sI w3 1 6 y4) 1 5 0)))))) ∧ (¬ r3 = 0 → (∀ y7 : Int32, y7 = (gI w3 1 4) + 1 → (J0 (sI w3 1 4 y7))))))))) → J0 w) →
  (∀ (w : Wd), (((gI w 1 3) ≤ (gI w 1 4) → ((2 < ((gI w 1 4) - (gI w 1 6)) → (Post (sI w 1 5 1))) ∧ (¬ 2 < ((gI w 1 4) - (gI w 1 6)) → (Post (sI w 1 5 3))))) ∧ (¬ (gI w 1 3) ≤ (gI w 1 4) → (vp_in (gI w 1 4) 400 ∧ (wp_X1_isDigit w (gA w 2 ((gI w 1 4).toNatClampNeg)) (fun r6 w6 => (r6 = 0 → ((2 < ((gI w6 1 4) - (gI w6 1 6)) → (Post (sI w6 1 5 1))) ∧ (¬ 2 < ((gI w6 1 4) - (gI w6 1 6)) → (Post (sI w6 1 5 3))))) ∧ (¬ r6 = 0 → (vp_in (gI w6 1 4) 400 ∧ (∀ y8 : Int32, y8 = ((10 * (gI w6 1 7)) + (gA w6 2 ((gI w6 1 4).toNatClampNeg))) - 48 → (∀ y9 : Int32, y9 = (gI (sI w6 1 7 y8) 1 4) + 1 → (J166 (sI (sI w6 1 7 y8) 1 4 y9))))))))))) → J166 w) →
  (∀ (w : Wd), (((gI w 1 3) ≤ (gI w 1 4) → ((8 < ((gI w 1 4) - (gI w 1 6)) → (Post (sI w 1 5 1))) ∧ (¬ 8 < ((gI w 1 4) - (gI w 1 6)) → (Post (sI w 1 5 2))))) ∧ (¬ (gI w 1 3) ≤ (gI w 1 4) → (vp_in (gI w 1 4) 400 ∧ (wp_X1_isLetter w (gA w 2 ((gI w 1 4).toNatClampNeg)) (fun r7 w7 => (r7 = 0 → ((8 < ((gI w7 1 4) - (gI w7 1 6)) → (Post (sI w7 1 5 1))) ∧ (¬ 8 < ((gI w7 1 4) - (gI w7 1 6)) → (Post (sI w7 1 5 2))))) ∧ (¬ r7 = 0 → (∀ y10 : Int32, y10 = (gI w7 1 4) + 1 → (J81 (sI w7 1 4 y10))))))))) → J81 w) →
  J0 w
set_option maxHeartbeats 4000000 in
set_option maxRecDepth 100000 in
theorem mt_X1_nextToken (l : Launch) {E : En} (hI : Inj E) (hF : ∀ o, (o < 15 ∨ 27 ≤ o ∧ o < 157) → o ∈ eL E) (w : Wd) {Post : Wd → Prop} (h : wp_X1_nextToken w Post) : MV l E yX1_nextToken cX1_nextToken 1 none 1 20 [.ref (eA E 1)] w Post := by
  refine MG.intro hI (by decide +kernel) (Nat.le_of_ble_eq_true rfl) ?_
  intro p e s m args below meth c Q C hr hlk hQ hw ls hl
  have hx := C.1
  have hb := C.2.1
  have hl : lv_has ls 1 [(0, .ref (eA E 1))] := hl
  unfold wp_X1_nextToken at h
  have h := h (fun w => Jp E p l e (Rm 1 20) s m args below meth c Q 1 0 [(0, .ref (eA E 1))] w)
  have h := h (fun w => Jp E p l e (Rm 1 20) s m args below meth c Q 1 166 [(0, .ref (eA E 1))] w)
  have h := h (fun w => Jp E p l e (Rm 1 20) s m args below meth c Q 1 81 [(0, .ref (eA E 1))] w)
  have h := h ?_
  rotate_left
  · intro w h H locs hw ls hl
    refine lv_aload_n hx hb dX1_nextToken_0 rfl (lv_at hl 0 rfl) ?_
    refine g1_4 C hw (hF 1 (by decide)) K_f_X1_35 dX1_nextToken_1 ?_
    refine lv_aload_n hx hb dX1_nextToken_4 rfl (lv_at hl 0 rfl) ?_
    refine g1_3 C hw (hF 1 (by decide)) K_f_X1_32 dX1_nextToken_5 ?_
    refine lv_icmp_ge (tgt := 39) hx hb dX1_nextToken_8 (by decide) (fun c1 => ?_) (fun c1 => ?_)
    · have h := h.1 c1
      refine lv_aload_n hx hb dX1_nextToken_39 rfl (lv_at hl 0 rfl) ?_
      refine lv_aload_n hx hb dX1_nextToken_40 rfl (lv_at hl 0 rfl) ?_
      refine g1_4 C hw (hF 1 (by decide)) K_f_X1_35 dX1_nextToken_41 ?_
      refine lv_topi (fun y1 ey1 => ?_)
      have h := h y1 ey1
      refine p1_6 C hw (hF 1 (by decide)) K_f_X1_139 dX1_nextToken_44 (fun H locs hw => ?_)
      refine lv_aload_n hx hb dX1_nextToken_47 rfl (lv_at hl 0 rfl) ?_
      refine g1_4 C hw (hF 1 (by decide)) K_f_X1_35 dX1_nextToken_48 ?_
      refine lv_aload_n hx hb dX1_nextToken_51 rfl (lv_at hl 0 rfl) ?_
      refine g1_3 C hw (hF 1 (by decide)) K_f_X1_32 dX1_nextToken_52 ?_
      refine lv_icmp_lt (tgt := 66) hx hb dX1_nextToken_55 (by decide) (fun c2 => ?_) (fun c2 => ?_)
      · have h := h.1 c2
        refine lv_aload_n hx hb dX1_nextToken_66 rfl (lv_at hl 0 rfl) ?_
        refine g1_2 C hw (hF 1 (by decide)) K_f_X1_18 dX1_nextToken_67 ?_
        refine lv_aload_n hx hb dX1_nextToken_70 rfl (lv_at hl 0 rfl) ?_
        refine g1_4 C hw (hF 1 (by decide)) K_f_X1_35 dX1_nextToken_71 ?_
        obtain ⟨hi1, h⟩ := h
        refine r_bald C hw 2 400 (hF 2 (by decide)) rfl hi1 dX1_nextToken_74 ?_
        refine done_i hw (my_runS (As := [.int (gA (sI w 1 6 y1) 2 ((gI (sI w 1 6 y1) 1 4).toNatClampNeg))]) (rest := []) C hw (mt_X1_isLetter l C.2.2.2.2.2.2.2 hF _ _ h) K_m_X1_154 K_s_X1_isLetter K_n_X1 K_c_X1_isLetter hy_X1_isLetter ⟨Nat.le_of_ble_eq_true rfl, Nat.le_of_ble_eq_true rfl⟩ hl.1 rfl (Nat.le_of_ble_eq_true rfl) dX1_nextToken_75 ⟨Nat.zero_le _, Nat.zero_le _⟩) (fun r1 w1 H locs h hw => ?_)
        refine lv_if_eq (tgt := 146) hx hb dX1_nextToken_78 (by decide) (fun c3 => ?_) (fun c3 => ?_)
        · have h := h.1 c3
          refine lv_aload_n hx hb dX1_nextToken_146 rfl (lv_at hl 0 rfl) ?_
          refine g1_2 C hw (hF 1 (by decide)) K_f_X1_18 dX1_nextToken_147 ?_
          refine lv_aload_n hx hb dX1_nextToken_150 rfl (lv_at hl 0 rfl) ?_
          refine g1_4 C hw (hF 1 (by decide)) K_f_X1_35 dX1_nextToken_151 ?_
          obtain ⟨hi2, h⟩ := h
          refine r_bald C hw 2 400 (hF 2 (by decide)) rfl hi2 dX1_nextToken_154 ?_
          refine done_i hw (my_runS (As := [.int (gA w1 2 ((gI w1 1 4).toNatClampNeg))]) (rest := []) C hw (mt_X1_isDigit l C.2.2.2.2.2.2.2 hF _ _ h) K_m_X1_157 K_s_X1_isDigit K_n_X1 K_c_X1_isDigit hy_X1_isDigit ⟨Nat.le_of_ble_eq_true rfl, Nat.le_of_ble_eq_true rfl⟩ hl.1 rfl (Nat.le_of_ble_eq_true rfl) dX1_nextToken_155 ⟨Nat.zero_le _, Nat.zero_le _⟩) (fun r2 w2 H locs h hw => ?_)
          refine lv_if_eq (tgt := 254) hx hb dX1_nextToken_158 (by decide) (fun c4 => ?_) (fun c4 => ?_)
          · have h := h.1 c4
            refine lv_aload_n hx hb dX1_nextToken_254 rfl (lv_at hl 0 rfl) ?_
            refine lv_aload_n hx hb dX1_nextToken_255 rfl (lv_at hl 0 rfl) ?_
            refine g1_2 C hw (hF 1 (by decide)) K_f_X1_18 dX1_nextToken_256 ?_
            refine lv_aload_n hx hb dX1_nextToken_259 rfl (lv_at hl 0 rfl) ?_
            refine g1_4 C hw (hF 1 (by decide)) K_f_X1_35 dX1_nextToken_260 ?_
            obtain ⟨hi3, h⟩ := h
            refine r_bald C hw 2 400 (hF 2 (by decide)) rfl hi3 dX1_nextToken_263 ?_
            refine lv_bipush (v := 59) hx hb dX1_nextToken_264 (by decide) ?_
            refine lv_icmp_ne (tgt := 273) hx hb dX1_nextToken_266 (by decide) (fun c5 => ?_) (fun c5 => ?_)
            · have h := h.2 c5
              refine lv_iconst (v := 1) hx hb dX1_nextToken_273 (by decide) ?_
              refine p1_5 C hw (hF 1 (by decide)) K_f_X1_54 dX1_nextToken_274 (fun H locs hw => ?_)
              refine lv_aload_n hx hb dX1_nextToken_277 rfl (lv_at hl 0 rfl) ?_
              refine lv_dup hx hb dX1_nextToken_278 rfl ?_
              refine g1_4 C hw (hF 1 (by decide)) K_f_X1_35 dX1_nextToken_279 ?_
              refine lv_iconst (v := 1) hx hb dX1_nextToken_282 (by decide) ?_
              refine lv_iadd hx hb dX1_nextToken_283 ?_
              refine lv_topi (fun y2 ey2 => ?_)
              have h := h y2 ey2
              refine p1_4 C hw (hF 1 (by decide)) K_f_X1_35 dX1_nextToken_284 (fun H locs hw => ?_)
              rw [hQ]
              exact ret_v C hr hlk hw h dX1_nextToken_287
            · have h := h.1 c5
              refine lv_iconst (v := 4) hx hb dX1_nextToken_269 (by decide) ?_
              refine lv_goto (tgt := 274) hx hb dX1_nextToken_270 (by decide) ?_
              refine p1_5 C hw (hF 1 (by decide)) K_f_X1_54 dX1_nextToken_274 (fun H locs hw => ?_)
              refine lv_aload_n hx hb dX1_nextToken_277 rfl (lv_at hl 0 rfl) ?_
              refine lv_dup hx hb dX1_nextToken_278 rfl ?_
              refine g1_4 C hw (hF 1 (by decide)) K_f_X1_35 dX1_nextToken_279 ?_
              refine lv_iconst (v := 1) hx hb dX1_nextToken_282 (by decide) ?_
              refine lv_iadd hx hb dX1_nextToken_283 ?_
              refine lv_topi (fun y3 ey3 => ?_)
              have h := h y3 ey3
              refine p1_4 C hw (hF 1 (by decide)) K_f_X1_35 dX1_nextToken_284 (fun H locs hw => ?_)
              rw [hQ]
              exact ret_v C hr hlk hw h dX1_nextToken_287
          · have h := h.2 c4
            refine lv_aload_n hx hb dX1_nextToken_161 rfl (lv_at hl 0 rfl) ?_
            refine lv_iconst (v := 0) hx hb dX1_nextToken_162 (by decide) ?_
            refine p1_7 C hw (hF 1 (by decide)) K_f_X1_99 dX1_nextToken_163 (fun H locs hw => ?_)
            exact h _ _ hw _ (lv_sub hl [0] rfl)
        · have h := h.2 c3
          exact h _ _ hw _ (lv_sub hl [0] rfl)
      · have h := h.2 c2
        refine lv_aload_n hx hb dX1_nextToken_58 rfl (lv_at hl 0 rfl) ?_
        refine lv_iconst (v := 0) hx hb dX1_nextToken_59 (by decide) ?_
        refine p1_5 C hw (hF 1 (by decide)) K_f_X1_54 dX1_nextToken_60 (fun H locs hw => ?_)
        refine lv_goto (tgt := 287) hx hb dX1_nextToken_63 (by decide) ?_
        rw [hQ]
        exact ret_v C hr hlk hw h dX1_nextToken_287
    · have h := h.2 c1
      refine lv_aload_n hx hb dX1_nextToken_11 rfl (lv_at hl 0 rfl) ?_
      refine g1_2 C hw (hF 1 (by decide)) K_f_X1_18 dX1_nextToken_12 ?_
      refine lv_aload_n hx hb dX1_nextToken_15 rfl (lv_at hl 0 rfl) ?_
      refine g1_4 C hw (hF 1 (by decide)) K_f_X1_35 dX1_nextToken_16 ?_
      obtain ⟨hi4, h⟩ := h
      refine r_bald C hw 2 400 (hF 2 (by decide)) rfl hi4 dX1_nextToken_19 ?_
      refine done_i hw (my_runS (As := [.int (gA w 2 ((gI w 1 4).toNatClampNeg))]) (rest := []) C hw (mt_X1_isWhite l C.2.2.2.2.2.2.2 hF _ _ h) K_m_X1_151 K_s_X1_isWhite K_n_X1 K_c_X1_isWhite hy_X1_isWhite ⟨Nat.le_of_ble_eq_true rfl, Nat.le_of_ble_eq_true rfl⟩ hl.1 rfl (Nat.le_of_ble_eq_true rfl) dX1_nextToken_20 ⟨Nat.zero_le _, Nat.zero_le _⟩) (fun r3 w3 H locs h hw => ?_)
      refine lv_if_eq (tgt := 39) hx hb dX1_nextToken_23 (by decide) (fun c6 => ?_) (fun c6 => ?_)
      · have h := h.1 c6
        refine lv_aload_n hx hb dX1_nextToken_39 rfl (lv_at hl 0 rfl) ?_
        refine lv_aload_n hx hb dX1_nextToken_40 rfl (lv_at hl 0 rfl) ?_
        refine g1_4 C hw (hF 1 (by decide)) K_f_X1_35 dX1_nextToken_41 ?_
        refine lv_topi (fun y4 ey4 => ?_)
        have h := h y4 ey4
        refine p1_6 C hw (hF 1 (by decide)) K_f_X1_139 dX1_nextToken_44 (fun H locs hw => ?_)
        refine lv_aload_n hx hb dX1_nextToken_47 rfl (lv_at hl 0 rfl) ?_
        refine g1_4 C hw (hF 1 (by decide)) K_f_X1_35 dX1_nextToken_48 ?_
        refine lv_aload_n hx hb dX1_nextToken_51 rfl (lv_at hl 0 rfl) ?_
        refine g1_3 C hw (hF 1 (by decide)) K_f_X1_32 dX1_nextToken_52 ?_
        refine lv_icmp_lt (tgt := 66) hx hb dX1_nextToken_55 (by decide) (fun c7 => ?_) (fun c7 => ?_)
        · have h := h.1 c7
          refine lv_aload_n hx hb dX1_nextToken_66 rfl (lv_at hl 0 rfl) ?_
          refine g1_2 C hw (hF 1 (by decide)) K_f_X1_18 dX1_nextToken_67 ?_
          refine lv_aload_n hx hb dX1_nextToken_70 rfl (lv_at hl 0 rfl) ?_
          refine g1_4 C hw (hF 1 (by decide)) K_f_X1_35 dX1_nextToken_71 ?_
          obtain ⟨hi5, h⟩ := h
          refine r_bald C hw 2 400 (hF 2 (by decide)) rfl hi5 dX1_nextToken_74 ?_
          refine done_i hw (my_runS (As := [.int (gA (sI w3 1 6 y4) 2 ((gI (sI w3 1 6 y4) 1 4).toNatClampNeg))]) (rest := []) C hw (mt_X1_isLetter l C.2.2.2.2.2.2.2 hF _ _ h) K_m_X1_154 K_s_X1_isLetter K_n_X1 K_c_X1_isLetter hy_X1_isLetter ⟨Nat.le_of_ble_eq_true rfl, Nat.le_of_ble_eq_true rfl⟩ hl.1 rfl (Nat.le_of_ble_eq_true rfl) dX1_nextToken_75 ⟨Nat.zero_le _, Nat.zero_le _⟩) (fun r4 w4 H locs h hw => ?_)
          refine lv_if_eq (tgt := 146) hx hb dX1_nextToken_78 (by decide) (fun c8 => ?_) (fun c8 => ?_)
          · have h := h.1 c8
            refine lv_aload_n hx hb dX1_nextToken_146 rfl (lv_at hl 0 rfl) ?_
            refine g1_2 C hw (hF 1 (by decide)) K_f_X1_18 dX1_nextToken_147 ?_
            refine lv_aload_n hx hb dX1_nextToken_150 rfl (lv_at hl 0 rfl) ?_
            refine g1_4 C hw (hF 1 (by decide)) K_f_X1_35 dX1_nextToken_151 ?_
            obtain ⟨hi6, h⟩ := h
            refine r_bald C hw 2 400 (hF 2 (by decide)) rfl hi6 dX1_nextToken_154 ?_
            refine done_i hw (my_runS (As := [.int (gA w4 2 ((gI w4 1 4).toNatClampNeg))]) (rest := []) C hw (mt_X1_isDigit l C.2.2.2.2.2.2.2 hF _ _ h) K_m_X1_157 K_s_X1_isDigit K_n_X1 K_c_X1_isDigit hy_X1_isDigit ⟨Nat.le_of_ble_eq_true rfl, Nat.le_of_ble_eq_true rfl⟩ hl.1 rfl (Nat.le_of_ble_eq_true rfl) dX1_nextToken_155 ⟨Nat.zero_le _, Nat.zero_le _⟩) (fun r5 w5 H locs h hw => ?_)
            refine lv_if_eq (tgt := 254) hx hb dX1_nextToken_158 (by decide) (fun c9 => ?_) (fun c9 => ?_)
            · have h := h.1 c9
              refine lv_aload_n hx hb dX1_nextToken_254 rfl (lv_at hl 0 rfl) ?_
              refine lv_aload_n hx hb dX1_nextToken_255 rfl (lv_at hl 0 rfl) ?_
              refine g1_2 C hw (hF 1 (by decide)) K_f_X1_18 dX1_nextToken_256 ?_
              refine lv_aload_n hx hb dX1_nextToken_259 rfl (lv_at hl 0 rfl) ?_
              refine g1_4 C hw (hF 1 (by decide)) K_f_X1_35 dX1_nextToken_260 ?_
              obtain ⟨hi7, h⟩ := h
              refine r_bald C hw 2 400 (hF 2 (by decide)) rfl hi7 dX1_nextToken_263 ?_
              refine lv_bipush (v := 59) hx hb dX1_nextToken_264 (by decide) ?_
              refine lv_icmp_ne (tgt := 273) hx hb dX1_nextToken_266 (by decide) (fun c10 => ?_) (fun c10 => ?_)
              · have h := h.2 c10
                refine lv_iconst (v := 1) hx hb dX1_nextToken_273 (by decide) ?_
                refine p1_5 C hw (hF 1 (by decide)) K_f_X1_54 dX1_nextToken_274 (fun H locs hw => ?_)
                refine lv_aload_n hx hb dX1_nextToken_277 rfl (lv_at hl 0 rfl) ?_
                refine lv_dup hx hb dX1_nextToken_278 rfl ?_
                refine g1_4 C hw (hF 1 (by decide)) K_f_X1_35 dX1_nextToken_279 ?_
                refine lv_iconst (v := 1) hx hb dX1_nextToken_282 (by decide) ?_
                refine lv_iadd hx hb dX1_nextToken_283 ?_
                refine lv_topi (fun y5 ey5 => ?_)
                have h := h y5 ey5
                refine p1_4 C hw (hF 1 (by decide)) K_f_X1_35 dX1_nextToken_284 (fun H locs hw => ?_)
                rw [hQ]
                exact ret_v C hr hlk hw h dX1_nextToken_287
              · have h := h.1 c10
                refine lv_iconst (v := 4) hx hb dX1_nextToken_269 (by decide) ?_
                refine lv_goto (tgt := 274) hx hb dX1_nextToken_270 (by decide) ?_
                refine p1_5 C hw (hF 1 (by decide)) K_f_X1_54 dX1_nextToken_274 (fun H locs hw => ?_)
                refine lv_aload_n hx hb dX1_nextToken_277 rfl (lv_at hl 0 rfl) ?_
                refine lv_dup hx hb dX1_nextToken_278 rfl ?_
                refine g1_4 C hw (hF 1 (by decide)) K_f_X1_35 dX1_nextToken_279 ?_
                refine lv_iconst (v := 1) hx hb dX1_nextToken_282 (by decide) ?_
                refine lv_iadd hx hb dX1_nextToken_283 ?_
                refine lv_topi (fun y6 ey6 => ?_)
                have h := h y6 ey6
                refine p1_4 C hw (hF 1 (by decide)) K_f_X1_35 dX1_nextToken_284 (fun H locs hw => ?_)
                rw [hQ]
                exact ret_v C hr hlk hw h dX1_nextToken_287
            · have h := h.2 c9
              refine lv_aload_n hx hb dX1_nextToken_161 rfl (lv_at hl 0 rfl) ?_
              refine lv_iconst (v := 0) hx hb dX1_nextToken_162 (by decide) ?_
              refine p1_7 C hw (hF 1 (by decide)) K_f_X1_99 dX1_nextToken_163 (fun H locs hw => ?_)
              exact h _ _ hw _ (lv_sub hl [0] rfl)
          · have h := h.2 c8
            exact h _ _ hw _ (lv_sub hl [0] rfl)
        · have h := h.2 c7
          refine lv_aload_n hx hb dX1_nextToken_58 rfl (lv_at hl 0 rfl) ?_
          refine lv_iconst (v := 0) hx hb dX1_nextToken_59 (by decide) ?_
          refine p1_5 C hw (hF 1 (by decide)) K_f_X1_54 dX1_nextToken_60 (fun H locs hw => ?_)
          refine lv_goto (tgt := 287) hx hb dX1_nextToken_63 (by decide) ?_
          rw [hQ]
          exact ret_v C hr hlk hw h dX1_nextToken_287
      · have h := h.2 c6
        refine lv_aload_n hx hb dX1_nextToken_26 rfl (lv_at hl 0 rfl) ?_
        refine lv_dup hx hb dX1_nextToken_27 rfl ?_
        refine g1_4 C hw (hF 1 (by decide)) K_f_X1_35 dX1_nextToken_28 ?_
        refine lv_iconst (v := 1) hx hb dX1_nextToken_31 (by decide) ?_
        refine lv_iadd hx hb dX1_nextToken_32 ?_
        refine lv_topi (fun y7 ey7 => ?_)
        have h := h y7 ey7
        refine p1_4 C hw (hF 1 (by decide)) K_f_X1_35 dX1_nextToken_33 (fun H locs hw => ?_)
        refine lv_goto (tgt := 0) hx hb dX1_nextToken_36 (by decide) ?_
        exact h _ _ hw _ (lv_sub hl [0] rfl)
  have h := h ?_
  rotate_left
  · intro w h H locs hw ls hl
    refine lv_aload_n hx hb dX1_nextToken_166 rfl (lv_at hl 0 rfl) ?_
    refine g1_4 C hw (hF 1 (by decide)) K_f_X1_35 dX1_nextToken_167 ?_
    refine lv_aload_n hx hb dX1_nextToken_170 rfl (lv_at hl 0 rfl) ?_
    refine g1_3 C hw (hF 1 (by decide)) K_f_X1_32 dX1_nextToken_171 ?_
    refine lv_icmp_ge (tgt := 229) hx hb dX1_nextToken_174 (by decide) (fun c11 => ?_) (fun c11 => ?_)
    · have h := h.1 c11
      refine lv_aload_n hx hb dX1_nextToken_229 rfl (lv_at hl 0 rfl) ?_
      refine lv_aload_n hx hb dX1_nextToken_230 rfl (lv_at hl 0 rfl) ?_
      refine g1_4 C hw (hF 1 (by decide)) K_f_X1_35 dX1_nextToken_231 ?_
      refine lv_aload_n hx hb dX1_nextToken_234 rfl (lv_at hl 0 rfl) ?_
      refine g1_6 C hw (hF 1 (by decide)) K_f_X1_139 dX1_nextToken_235 ?_
      refine lv_isub hx hb dX1_nextToken_238 ?_
      refine lv_iconst (v := 2) hx hb dX1_nextToken_239 (by decide) ?_
      refine lv_icmp_gt (tgt := 247) hx hb dX1_nextToken_240 (by decide) (fun c12 => ?_) (fun c12 => ?_)
      · have h := h.1 c12
        refine lv_iconst (v := 1) hx hb dX1_nextToken_247 (by decide) ?_
        refine p1_5 C hw (hF 1 (by decide)) K_f_X1_54 dX1_nextToken_248 (fun H locs hw => ?_)
        refine lv_goto (tgt := 287) hx hb dX1_nextToken_251 (by decide) ?_
        rw [hQ]
        exact ret_v C hr hlk hw h dX1_nextToken_287
      · have h := h.2 c12
        refine lv_iconst (v := 3) hx hb dX1_nextToken_243 (by decide) ?_
        refine lv_goto (tgt := 248) hx hb dX1_nextToken_244 (by decide) ?_
        refine p1_5 C hw (hF 1 (by decide)) K_f_X1_54 dX1_nextToken_248 (fun H locs hw => ?_)
        refine lv_goto (tgt := 287) hx hb dX1_nextToken_251 (by decide) ?_
        rw [hQ]
        exact ret_v C hr hlk hw h dX1_nextToken_287
    · have h := h.2 c11
      refine lv_aload_n hx hb dX1_nextToken_177 rfl (lv_at hl 0 rfl) ?_
      refine g1_2 C hw (hF 1 (by decide)) K_f_X1_18 dX1_nextToken_178 ?_
      refine lv_aload_n hx hb dX1_nextToken_181 rfl (lv_at hl 0 rfl) ?_
      refine g1_4 C hw (hF 1 (by decide)) K_f_X1_35 dX1_nextToken_182 ?_
      obtain ⟨hi8, h⟩ := h
      refine r_bald C hw 2 400 (hF 2 (by decide)) rfl hi8 dX1_nextToken_185 ?_
      refine done_i hw (my_runS (As := [.int (gA w 2 ((gI w 1 4).toNatClampNeg))]) (rest := []) C hw (mt_X1_isDigit l C.2.2.2.2.2.2.2 hF _ _ h) K_m_X1_157 K_s_X1_isDigit K_n_X1 K_c_X1_isDigit hy_X1_isDigit ⟨Nat.le_of_ble_eq_true rfl, Nat.le_of_ble_eq_true rfl⟩ hl.1 rfl (Nat.le_of_ble_eq_true rfl) dX1_nextToken_186 ⟨Nat.zero_le _, Nat.zero_le _⟩) (fun r6 w6 H locs h hw => ?_)
      refine lv_if_eq (tgt := 229) hx hb dX1_nextToken_189 (by decide) (fun c13 => ?_) (fun c13 => ?_)
      · have h := h.1 c13
        refine lv_aload_n hx hb dX1_nextToken_229 rfl (lv_at hl 0 rfl) ?_
        refine lv_aload_n hx hb dX1_nextToken_230 rfl (lv_at hl 0 rfl) ?_
        refine g1_4 C hw (hF 1 (by decide)) K_f_X1_35 dX1_nextToken_231 ?_
        refine lv_aload_n hx hb dX1_nextToken_234 rfl (lv_at hl 0 rfl) ?_
        refine g1_6 C hw (hF 1 (by decide)) K_f_X1_139 dX1_nextToken_235 ?_
        refine lv_isub hx hb dX1_nextToken_238 ?_
        refine lv_iconst (v := 2) hx hb dX1_nextToken_239 (by decide) ?_
        refine lv_icmp_gt (tgt := 247) hx hb dX1_nextToken_240 (by decide) (fun c14 => ?_) (fun c14 => ?_)
        · have h := h.1 c14
          refine lv_iconst (v := 1) hx hb dX1_nextToken_247 (by decide) ?_
          refine p1_5 C hw (hF 1 (by decide)) K_f_X1_54 dX1_nextToken_248 (fun H locs hw => ?_)
          refine lv_goto (tgt := 287) hx hb dX1_nextToken_251 (by decide) ?_
          rw [hQ]
          exact ret_v C hr hlk hw h dX1_nextToken_287
        · have h := h.2 c14
          refine lv_iconst (v := 3) hx hb dX1_nextToken_243 (by decide) ?_
          refine lv_goto (tgt := 248) hx hb dX1_nextToken_244 (by decide) ?_
          refine p1_5 C hw (hF 1 (by decide)) K_f_X1_54 dX1_nextToken_248 (fun H locs hw => ?_)
          refine lv_goto (tgt := 287) hx hb dX1_nextToken_251 (by decide) ?_
          rw [hQ]
          exact ret_v C hr hlk hw h dX1_nextToken_287
      · have h := h.2 c13
        refine lv_aload_n hx hb dX1_nextToken_192 rfl (lv_at hl 0 rfl) ?_
        refine lv_bipush (v := 10) hx hb dX1_nextToken_193 (by decide) ?_
        refine lv_aload_n hx hb dX1_nextToken_195 rfl (lv_at hl 0 rfl) ?_
        refine g1_7 C hw (hF 1 (by decide)) K_f_X1_99 dX1_nextToken_196 ?_
        refine lv_imul hx hb dX1_nextToken_199 ?_
        refine lv_aload_n hx hb dX1_nextToken_200 rfl (lv_at hl 0 rfl) ?_
        refine g1_2 C hw (hF 1 (by decide)) K_f_X1_18 dX1_nextToken_201 ?_
        refine lv_aload_n hx hb dX1_nextToken_204 rfl (lv_at hl 0 rfl) ?_
        refine g1_4 C hw (hF 1 (by decide)) K_f_X1_35 dX1_nextToken_205 ?_
        obtain ⟨hi9, h⟩ := h
        refine r_bald C hw 2 400 (hF 2 (by decide)) rfl hi9 dX1_nextToken_208 ?_
        refine lv_iadd hx hb dX1_nextToken_209 ?_
        refine lv_bipush (v := 48) hx hb dX1_nextToken_210 (by decide) ?_
        refine lv_isub hx hb dX1_nextToken_212 ?_
        refine lv_topi (fun y8 ey8 => ?_)
        have h := h y8 ey8
        refine p1_7 C hw (hF 1 (by decide)) K_f_X1_99 dX1_nextToken_213 (fun H locs hw => ?_)
        refine lv_aload_n hx hb dX1_nextToken_216 rfl (lv_at hl 0 rfl) ?_
        refine lv_dup hx hb dX1_nextToken_217 rfl ?_
        refine g1_4 C hw (hF 1 (by decide)) K_f_X1_35 dX1_nextToken_218 ?_
        refine lv_iconst (v := 1) hx hb dX1_nextToken_221 (by decide) ?_
        refine lv_iadd hx hb dX1_nextToken_222 ?_
        refine lv_topi (fun y9 ey9 => ?_)
        have h := h y9 ey9
        refine p1_4 C hw (hF 1 (by decide)) K_f_X1_35 dX1_nextToken_223 (fun H locs hw => ?_)
        refine lv_goto (tgt := 166) hx hb dX1_nextToken_226 (by decide) ?_
        exact h _ _ hw _ (lv_sub hl [0] rfl)
  have h := h ?_
  rotate_left
  · intro w h H locs hw ls hl
    refine lv_aload_n hx hb dX1_nextToken_81 rfl (lv_at hl 0 rfl) ?_
    refine g1_4 C hw (hF 1 (by decide)) K_f_X1_35 dX1_nextToken_82 ?_
    refine lv_aload_n hx hb dX1_nextToken_85 rfl (lv_at hl 0 rfl) ?_
    refine g1_3 C hw (hF 1 (by decide)) K_f_X1_32 dX1_nextToken_86 ?_
    refine lv_icmp_ge (tgt := 120) hx hb dX1_nextToken_89 (by decide) (fun c15 => ?_) (fun c15 => ?_)
    · have h := h.1 c15
      refine lv_aload_n hx hb dX1_nextToken_120 rfl (lv_at hl 0 rfl) ?_
      refine lv_aload_n hx hb dX1_nextToken_121 rfl (lv_at hl 0 rfl) ?_
      refine g1_4 C hw (hF 1 (by decide)) K_f_X1_35 dX1_nextToken_122 ?_
      refine lv_aload_n hx hb dX1_nextToken_125 rfl (lv_at hl 0 rfl) ?_
      refine g1_6 C hw (hF 1 (by decide)) K_f_X1_139 dX1_nextToken_126 ?_
      refine lv_isub hx hb dX1_nextToken_129 ?_
      refine lv_bipush (v := 8) hx hb dX1_nextToken_130 (by decide) ?_
      refine lv_icmp_gt (tgt := 139) hx hb dX1_nextToken_132 (by decide) (fun c16 => ?_) (fun c16 => ?_)
      · have h := h.1 c16
        refine lv_iconst (v := 1) hx hb dX1_nextToken_139 (by decide) ?_
        refine p1_5 C hw (hF 1 (by decide)) K_f_X1_54 dX1_nextToken_140 (fun H locs hw => ?_)
        refine lv_goto (tgt := 287) hx hb dX1_nextToken_143 (by decide) ?_
        rw [hQ]
        exact ret_v C hr hlk hw h dX1_nextToken_287
      · have h := h.2 c16
        refine lv_iconst (v := 2) hx hb dX1_nextToken_135 (by decide) ?_
        refine lv_goto (tgt := 140) hx hb dX1_nextToken_136 (by decide) ?_
        refine p1_5 C hw (hF 1 (by decide)) K_f_X1_54 dX1_nextToken_140 (fun H locs hw => ?_)
        refine lv_goto (tgt := 287) hx hb dX1_nextToken_143 (by decide) ?_
        rw [hQ]
        exact ret_v C hr hlk hw h dX1_nextToken_287
    · have h := h.2 c15
      refine lv_aload_n hx hb dX1_nextToken_92 rfl (lv_at hl 0 rfl) ?_
      refine g1_2 C hw (hF 1 (by decide)) K_f_X1_18 dX1_nextToken_93 ?_
      refine lv_aload_n hx hb dX1_nextToken_96 rfl (lv_at hl 0 rfl) ?_
      refine g1_4 C hw (hF 1 (by decide)) K_f_X1_35 dX1_nextToken_97 ?_
      obtain ⟨hi10, h⟩ := h
      refine r_bald C hw 2 400 (hF 2 (by decide)) rfl hi10 dX1_nextToken_100 ?_
      refine done_i hw (my_runS (As := [.int (gA w 2 ((gI w 1 4).toNatClampNeg))]) (rest := []) C hw (mt_X1_isLetter l C.2.2.2.2.2.2.2 hF _ _ h) K_m_X1_154 K_s_X1_isLetter K_n_X1 K_c_X1_isLetter hy_X1_isLetter ⟨Nat.le_of_ble_eq_true rfl, Nat.le_of_ble_eq_true rfl⟩ hl.1 rfl (Nat.le_of_ble_eq_true rfl) dX1_nextToken_101 ⟨Nat.zero_le _, Nat.zero_le _⟩) (fun r7 w7 H locs h hw => ?_)
      refine lv_if_eq (tgt := 120) hx hb dX1_nextToken_104 (by decide) (fun c17 => ?_) (fun c17 => ?_)
      · have h := h.1 c17
        refine lv_aload_n hx hb dX1_nextToken_120 rfl (lv_at hl 0 rfl) ?_
        refine lv_aload_n hx hb dX1_nextToken_121 rfl (lv_at hl 0 rfl) ?_
        refine g1_4 C hw (hF 1 (by decide)) K_f_X1_35 dX1_nextToken_122 ?_
        refine lv_aload_n hx hb dX1_nextToken_125 rfl (lv_at hl 0 rfl) ?_
        refine g1_6 C hw (hF 1 (by decide)) K_f_X1_139 dX1_nextToken_126 ?_
        refine lv_isub hx hb dX1_nextToken_129 ?_
        refine lv_bipush (v := 8) hx hb dX1_nextToken_130 (by decide) ?_
        refine lv_icmp_gt (tgt := 139) hx hb dX1_nextToken_132 (by decide) (fun c18 => ?_) (fun c18 => ?_)
        · have h := h.1 c18
          refine lv_iconst (v := 1) hx hb dX1_nextToken_139 (by decide) ?_
          refine p1_5 C hw (hF 1 (by decide)) K_f_X1_54 dX1_nextToken_140 (fun H locs hw => ?_)
          refine lv_goto (tgt := 287) hx hb dX1_nextToken_143 (by decide) ?_
          rw [hQ]
          exact ret_v C hr hlk hw h dX1_nextToken_287
        · have h := h.2 c18
          refine lv_iconst (v := 2) hx hb dX1_nextToken_135 (by decide) ?_
          refine lv_goto (tgt := 140) hx hb dX1_nextToken_136 (by decide) ?_
          refine p1_5 C hw (hF 1 (by decide)) K_f_X1_54 dX1_nextToken_140 (fun H locs hw => ?_)
          refine lv_goto (tgt := 287) hx hb dX1_nextToken_143 (by decide) ?_
          rw [hQ]
          exact ret_v C hr hlk hw h dX1_nextToken_287
      · have h := h.2 c17
        refine lv_aload_n hx hb dX1_nextToken_107 rfl (lv_at hl 0 rfl) ?_
        refine lv_dup hx hb dX1_nextToken_108 rfl ?_
        refine g1_4 C hw (hF 1 (by decide)) K_f_X1_35 dX1_nextToken_109 ?_
        refine lv_iconst (v := 1) hx hb dX1_nextToken_112 (by decide) ?_
        refine lv_iadd hx hb dX1_nextToken_113 ?_
        refine lv_topi (fun y10 ey10 => ?_)
        have h := h y10 ey10
        refine p1_4 C hw (hF 1 (by decide)) K_f_X1_35 dX1_nextToken_114 (fun H locs hw => ?_)
        refine lv_goto (tgt := 81) hx hb dX1_nextToken_117 (by decide) ?_
        exact h _ _ hw _ (lv_sub hl [0] rfl)
  exact h _ _ hw _ (lv_sub hl [0] rfl)
theorem hy_X1_fail : yX1_fail.cls ≠ "java/lang/invoke/MethodHandle" ∧ yX1_fail.cls ≠ "java/lang/invoke/VarHandle" ∧ (parseMethodDescriptor yX1_fail.desc).map (fun d => d.parameters.length) = some 1 := by decide +kernel
def wp_X1_fail (w : Wd) (p1 : Int32) (Post : Int32 → Wd → Prop) : Prop :=
  ∀ y1 : Int32, y1 = (8 * (gI w 1 6)) + p1 → (Post 0 (sI w 1 8 y1))
set_option maxHeartbeats 4000000 in
set_option maxRecDepth 100000 in
theorem mt_X1_fail (l : Launch) {E : En} (hI : Inj E) (hF : ∀ o, (o < 15 ∨ 27 ≤ o ∧ o < 157) → o ∈ eL E) (w : Wd) (p1 : Int32) {Post : Int32 → Wd → Prop} (h : wp_X1_fail w p1 Post) : MI l E yX1_fail cX1_fail 2 (some .boolean) 0 0 [.ref (eA E 1), .int p1] w Post := by
  refine MG.intro hI (by decide +kernel) (Nat.le_of_ble_eq_true rfl) ?_
  intro p e s m args below meth c Q C hr hlk hQ hw ls hl
  have hx := C.1
  have hb := C.2.1
  have hl : lv_has ls 2 [(0, .ref (eA E 1)), (1, .int p1)] := hl
  unfold wp_X1_fail at h
  refine lv_aload_n hx hb dX1_fail_0 rfl (lv_at hl 0 rfl) ?_
  refine lv_bipush (v := 8) hx hb dX1_fail_1 (by decide) ?_
  refine lv_aload_n hx hb dX1_fail_3 rfl (lv_at hl 0 rfl) ?_
  refine g1_6 C hw (hF 1 (by decide)) K_f_X1_139 dX1_fail_4 ?_
  refine lv_imul hx hb dX1_fail_7 ?_
  refine lv_iload_n hx hb dX1_fail_8 rfl (lv_at hl 1 rfl) ?_
  refine lv_iadd hx hb dX1_fail_9 ?_
  refine lv_topi (fun y1 ey1 => ?_)
  have h := h y1 ey1
  refine p1_8 C hw (hF 1 (by decide)) K_f_X1_38 dX1_fail_10 (fun H locs hw => ?_)
  refine lv_iconst (v := 0) hx hb dX1_fail_13 (by decide) ?_
  rw [hQ]
  exact ret_z C hr hlk hw h (by decide) dX1_fail_14
theorem hy_X1_readSemicolon : yX1_readSemicolon.cls ≠ "java/lang/invoke/MethodHandle" ∧ yX1_readSemicolon.cls ≠ "java/lang/invoke/VarHandle" ∧ (parseMethodDescriptor yX1_readSemicolon.desc).map (fun d => d.parameters.length) = some 0 := by decide +kernel
def wp_X1_readSemicolon (w : Wd) (Post : Wd → Prop) : Prop :=
  ((gI w 1 5) = 4 → (wp_X1_nextToken w (fun w2 => Post w2))) ∧ (¬ (gI w 1 5) = 4 → (wp_X1_fail w 1 (fun r1 w1 => Post w1)))
set_option maxHeartbeats 4000000 in
set_option maxRecDepth 100000 in
theorem mt_X1_readSemicolon (l : Launch) {E : En} (hI : Inj E) (hF : ∀ o, (o < 15 ∨ 27 ≤ o ∧ o < 157) → o ∈ eL E) (w : Wd) {Post : Wd → Prop} (h : wp_X1_readSemicolon w Post) : MV l E yX1_readSemicolon cX1_readSemicolon 1 none 2 40 [.ref (eA E 1)] w Post := by
  refine MG.intro hI (by decide +kernel) (Nat.le_of_ble_eq_true rfl) ?_
  intro p e s m args below meth c Q C hr hlk hQ hw ls hl
  have hx := C.1
  have hb := C.2.1
  have hl : lv_has ls 1 [(0, .ref (eA E 1))] := hl
  unfold wp_X1_readSemicolon at h
  refine lv_aload_n hx hb dX1_readSemicolon_0 rfl (lv_at hl 0 rfl) ?_
  refine g1_5 C hw (hF 1 (by decide)) K_f_X1_54 dX1_readSemicolon_1 ?_
  refine lv_iconst (v := 4) hx hb dX1_readSemicolon_4 (by decide) ?_
  refine lv_icmp_ne (tgt := 15) hx hb dX1_readSemicolon_5 (by decide) (fun c1 => ?_) (fun c1 => ?_)
  · have h := h.2 c1
    refine lv_aload_n hx hb dX1_readSemicolon_15 rfl (lv_at hl 0 rfl) ?_
    refine lv_iconst (v := 1) hx hb dX1_readSemicolon_16 (by decide) ?_
    refine done_i hw (my_runV (As := [.int 1]) (rest := []) C hw 1 1 (hF 1 (by decide)) rfl rfl (mt_X1_fail l C.2.2.2.2.2.2.2 hF _ _ h) K_m_X1_85 K_i_X1_fail K_v_X1_fail K_n_X1 K_c_X1_fail hy_X1_fail ⟨Nat.le_of_ble_eq_true rfl, Nat.le_of_ble_eq_true rfl⟩ hl.1 rfl (Nat.le_of_ble_eq_true rfl) dX1_readSemicolon_17 ⟨Nat.zero_le _, Nat.zero_le _⟩) (fun r1 w1 H locs h hw => ?_)
    refine lv_pop hx hb dX1_readSemicolon_20 rfl ?_
    rw [hQ]
    exact ret_v C hr hlk hw h dX1_readSemicolon_21
  · have h := h.1 c1
    refine lv_aload_n hx hb dX1_readSemicolon_8 rfl (lv_at hl 0 rfl) ?_
    refine done_v hw (my_runV (As := []) (rest := []) C hw 1 1 (hF 1 (by decide)) rfl rfl (mt_X1_nextToken l C.2.2.2.2.2.2.2 hF _ h) K_m_X1_51 K_i_X1_nextToken K_v_X1_nextToken K_n_X1 K_c_X1_nextToken hy_X1_nextToken ⟨Nat.le_of_ble_eq_true rfl, Nat.le_of_ble_eq_true rfl⟩ hl.1 rfl (Nat.le_of_ble_eq_true rfl) dX1_readSemicolon_9 ⟨Nat.zero_le _, Nat.zero_le _⟩) (fun w2 H locs h hw => ?_)
    refine lv_goto (tgt := 21) hx hb dX1_readSemicolon_12 (by decide) ?_
    rw [hQ]
    exact ret_v C hr hlk hw h dX1_readSemicolon_21
theorem hy_X1_isNumber : yX1_isNumber.cls ≠ "java/lang/invoke/MethodHandle" ∧ yX1_isNumber.cls ≠ "java/lang/invoke/VarHandle" ∧ (parseMethodDescriptor yX1_isNumber.desc).map (fun d => d.parameters.length) = some 2 := by decide +kernel
def wp_X1_isNumber (w : Wd) (p1 : Int32) (p2 : Int32) (Post : Int32 → Wd → Prop) : Prop :=
  ((gI w 1 5) = 3 → (((gI w 1 7) < p1 → (wp_X1_fail w 2 (fun r1 w1 => (r1 = 0 → (Post 0 w1)) ∧ (¬ r1 = 0 → (Post 1 w1))))) ∧ (¬ (gI w 1 7) < p1 → (((gI w 1 7) ≤ p2 → (Post 1 w)) ∧ (¬ (gI w 1 7) ≤ p2 → (wp_X1_fail w 2 (fun r2 w2 => (r2 = 0 → (Post 0 w2)) ∧ (¬ r2 = 0 → (Post 1 w2))))))))) ∧ (¬ (gI w 1 5) = 3 → (wp_X1_fail w 1 (fun r3 w3 => (r3 = 0 ∨ r3 = 1) ∧ Post r3 w3)))
set_option maxHeartbeats 4000000 in
set_option maxRecDepth 100000 in
theorem mt_X1_isNumber (l : Launch) {E : En} (hI : Inj E) (hF : ∀ o, (o < 15 ∨ 27 ≤ o ∧ o < 157) → o ∈ eL E) (w : Wd) (p1 : Int32) (p2 : Int32) {Post : Int32 → Wd → Prop} (h : wp_X1_isNumber w p1 p2 Post) : MI l E yX1_isNumber cX1_isNumber 3 (some .boolean) 1 21 [.ref (eA E 1), .int p1, .int p2] w Post := by
  refine MG.intro hI (by decide +kernel) (Nat.le_of_ble_eq_true rfl) ?_
  intro p e s m args below meth c Q C hr hlk hQ hw ls hl
  have hx := C.1
  have hb := C.2.1
  have hl : lv_has ls 3 [(0, .ref (eA E 1)), (1, .int p1), (2, .int p2)] := hl
  unfold wp_X1_isNumber at h
  refine lv_aload_n hx hb dX1_isNumber_0 rfl (lv_at hl 0 rfl) ?_
  refine g1_5 C hw (hF 1 (by decide)) K_f_X1_54 dX1_isNumber_1 ?_
  refine lv_iconst (v := 3) hx hb dX1_isNumber_4 (by decide) ?_
  refine lv_icmp_eq (tgt := 14) hx hb dX1_isNumber_5 (by decide) (fun c1 => ?_) (fun c1 => ?_)
  · have h := h.1 c1
    refine lv_aload_n hx hb dX1_isNumber_14 rfl (lv_at hl 0 rfl) ?_
    refine g1_7 C hw (hF 1 (by decide)) K_f_X1_99 dX1_isNumber_15 ?_
    refine lv_iload_n hx hb dX1_isNumber_18 rfl (lv_at hl 1 rfl) ?_
    refine lv_icmp_lt (tgt := 30) hx hb dX1_isNumber_19 (by decide) (fun c2 => ?_) (fun c2 => ?_)
    · have h := h.1 c2
      refine lv_aload_n hx hb dX1_isNumber_30 rfl (lv_at hl 0 rfl) ?_
      refine lv_iconst (v := 2) hx hb dX1_isNumber_31 (by decide) ?_
      refine done_i hw (my_runV (As := [.int 2]) (rest := []) C hw 1 1 (hF 1 (by decide)) rfl rfl (mt_X1_fail l C.2.2.2.2.2.2.2 hF _ _ h) K_m_X1_85 K_i_X1_fail K_v_X1_fail K_n_X1 K_c_X1_fail hy_X1_fail ⟨Nat.le_of_ble_eq_true rfl, Nat.le_of_ble_eq_true rfl⟩ hl.1 rfl (Nat.le_of_ble_eq_true rfl) dX1_isNumber_32 ⟨Nat.zero_le _, Nat.zero_le _⟩) (fun r1 w1 H locs h hw => ?_)
      refine lv_if_eq (tgt := 42) hx hb dX1_isNumber_35 (by decide) (fun c3 => ?_) (fun c3 => ?_)
      · have h := h.1 c3
        refine lv_iconst (v := 0) hx hb dX1_isNumber_42 (by decide) ?_
        rw [hQ]
        exact ret_z C hr hlk hw h (by decide) dX1_isNumber_43
      · have h := h.2 c3
        refine lv_iconst (v := 1) hx hb dX1_isNumber_38 (by decide) ?_
        refine lv_goto (tgt := 43) hx hb dX1_isNumber_39 (by decide) ?_
        rw [hQ]
        exact ret_z C hr hlk hw h (by decide) dX1_isNumber_43
    · have h := h.2 c2
      refine lv_aload_n hx hb dX1_isNumber_22 rfl (lv_at hl 0 rfl) ?_
      refine g1_7 C hw (hF 1 (by decide)) K_f_X1_99 dX1_isNumber_23 ?_
      refine lv_iload_n hx hb dX1_isNumber_26 rfl (lv_at hl 2 rfl) ?_
      refine lv_icmp_le (tgt := 38) hx hb dX1_isNumber_27 (by decide) (fun c4 => ?_) (fun c4 => ?_)
      · have h := h.1 c4
        refine lv_iconst (v := 1) hx hb dX1_isNumber_38 (by decide) ?_
        refine lv_goto (tgt := 43) hx hb dX1_isNumber_39 (by decide) ?_
        rw [hQ]
        exact ret_z C hr hlk hw h (by decide) dX1_isNumber_43
      · have h := h.2 c4
        refine lv_aload_n hx hb dX1_isNumber_30 rfl (lv_at hl 0 rfl) ?_
        refine lv_iconst (v := 2) hx hb dX1_isNumber_31 (by decide) ?_
        refine done_i hw (my_runV (As := [.int 2]) (rest := []) C hw 1 1 (hF 1 (by decide)) rfl rfl (mt_X1_fail l C.2.2.2.2.2.2.2 hF _ _ h) K_m_X1_85 K_i_X1_fail K_v_X1_fail K_n_X1 K_c_X1_fail hy_X1_fail ⟨Nat.le_of_ble_eq_true rfl, Nat.le_of_ble_eq_true rfl⟩ hl.1 rfl (Nat.le_of_ble_eq_true rfl) dX1_isNumber_32 ⟨Nat.zero_le _, Nat.zero_le _⟩) (fun r2 w2 H locs h hw => ?_)
        refine lv_if_eq (tgt := 42) hx hb dX1_isNumber_35 (by decide) (fun c5 => ?_) (fun c5 => ?_)
        · have h := h.1 c5
          refine lv_iconst (v := 0) hx hb dX1_isNumber_42 (by decide) ?_
          rw [hQ]
          exact ret_z C hr hlk hw h (by decide) dX1_isNumber_43
        · have h := h.2 c5
          refine lv_iconst (v := 1) hx hb dX1_isNumber_38 (by decide) ?_
          refine lv_goto (tgt := 43) hx hb dX1_isNumber_39 (by decide) ?_
          rw [hQ]
          exact ret_z C hr hlk hw h (by decide) dX1_isNumber_43
  · have h := h.2 c1
    refine lv_aload_n hx hb dX1_isNumber_8 rfl (lv_at hl 0 rfl) ?_
    refine lv_iconst (v := 1) hx hb dX1_isNumber_9 (by decide) ?_
    refine done_i hw (my_runV (As := [.int 1]) (rest := []) C hw 1 1 (hF 1 (by decide)) rfl rfl (mt_X1_fail l C.2.2.2.2.2.2.2 hF _ _ h) K_m_X1_85 K_i_X1_fail K_v_X1_fail K_n_X1 K_c_X1_fail hy_X1_fail ⟨Nat.le_of_ble_eq_true rfl, Nat.le_of_ble_eq_true rfl⟩ hl.1 rfl (Nat.le_of_ble_eq_true rfl) dX1_isNumber_10 ⟨Nat.zero_le _, Nat.zero_le _⟩) (fun r3 w3 H locs h hw => ?_)
    rw [hQ]
    exact ret_z C hr hlk hw h.2 h.1 dX1_isNumber_13
theorem hy_X1_readSet : yX1_readSet.cls ≠ "java/lang/invoke/MethodHandle" ∧ yX1_readSet.cls ≠ "java/lang/invoke/VarHandle" ∧ (parseMethodDescriptor yX1_readSet.desc).map (fun d => d.parameters.length) = some 2 := by decide +kernel
def wp_X1_readSet (w : Wd) (p1 : Int32) (p2 : Int32) (Post : Int32 → Wd → Prop) : Prop :=
  ∀ J5 : Int32 → Int32 → Wd → Prop, (∀ (x3 : Int32) (x4 : Int32) (w : Wd), ((p2 < x4 → (Post x3 w)) ∧ (¬ p2 < x4 → ((x4 = 0 → (wp_X1_isNumber w 1 p1 (fun r1 w1 => (r1 = 0 → (Post 0 w1)) ∧ (¬ r1 = 0 → (wp_X8_hasBit w1 x3 (gI w1 1 7) (fun r2 w2 => (r2 = 0 → ((x4 = p2 → (wp_X1_fail w2 4 (fun r3 w4 => Post 0 w4))) ∧ (¬ x4 = p2 → (∀ y1 : Int32, y1 = x3 ||| ((1 : Int32) <<< ((gI w2 1 7) &&& 31)) → (wp_X1_nextToken w2 (fun w3 => ∀ y2 : Int32, y2 = x4 + 1 → (J5 y1 y2 w3))))))) ∧ (¬ r2 = 0 → (wp_X1_fail w2 3 (fun r4 w5 => Post 0 w5))))))))) ∧ (¬ x4 = 0 → (((gI w 1 5) = 3 → (wp_X1_isNumber w 1 p1 (fun r5 w6 => (r5 = 0 → (Post 0 w6)) ∧ (¬ r5 = 0 → (wp_X8_hasBit w6 x3 (gI w6 1 7) (fun r6 w7 => (r6 = 0 → ((x4 = p2 → (wp_X1_fail w7 4 (fun r7 w9 => Post 0 w9))) ∧ (¬ x4 = p2 → (∀ y3 : Int32, y3 = x3 ||| ((1 : Int32) <<< ((gI w7 1 7) &&& 31)) → (wp_X1_nextToken w7 (fun w8 => ∀ y4 : Int32, y4 = x4 + 1 → (J5 y3 y4 w8))))))) ∧ (¬ r6 = 0 → (wp_X1_fail w7 3 (fun r8 w10 => Post 0 w10))))))))) ∧ (¬ (gI w 1 5) = 3 → (Post x3 w))))))) → J5 x3 x4 w) →
  J5 0 0 w
set_option maxHeartbeats 4000000 in
set_option maxRecDepth 100000 in
theorem mt_X1_readSet (l : Launch) {E : En} (hI : Inj E) (hF : ∀ o, (o < 15 ∨ 27 ≤ o ∧ o < 157) → o ∈ eL E) (w : Wd) (p1 : Int32) (p2 : Int32) {Post : Int32 → Wd → Prop} (h : wp_X1_readSet w p1 p2 Post) : MI l E yX1_readSet cX1_readSet 5 (some .int) 2 43 [.ref (eA E 1), .int p1, .int p2] w Post := by
  refine MG.intro hI (by decide +kernel) (Nat.le_of_ble_eq_true rfl) ?_
  intro p e s m args below meth c Q C hr hlk hQ hw ls hl
  have hx := C.1
  have hb := C.2.1
  have hl : lv_has ls 5 [(0, .ref (eA E 1)), (1, .int p1), (2, .int p2)] := hl
  unfold wp_X1_readSet at h
  have h := h (fun x3 x4 w => Jp E p l e (Rm 2 43) s m args below meth c Q 5 5 [(0, .ref (eA E 1)), (1, .int p1), (2, .int p2), (3, .int x3), (4, .int x4)] w)
  have h := h ?_
  rotate_left
  · intro x3 x4 w h H locs hw ls hl
    refine lv_iload hx hb dX1_readSet_5 (lv_at hl 4 rfl) ?_
    refine lv_iload_n hx hb dX1_readSet_7 rfl (lv_at hl 2 rfl) ?_
    refine lv_icmp_gt (tgt := 87) hx hb dX1_readSet_8 (by decide) (fun c1 => ?_) (fun c1 => ?_)
    · have h := h.1 c1
      refine lv_iload_n hx hb dX1_readSet_87 rfl (lv_at hl 3 rfl) ?_
      rw [hQ]
      exact ret_i C hr hlk hw h dX1_readSet_88
    · have h := h.2 c1
      refine lv_iload hx hb dX1_readSet_11 (lv_at hl 4 rfl) ?_
      refine lv_if_eq (tgt := 24) hx hb dX1_readSet_13 (by decide) (fun c2 => ?_) (fun c2 => ?_)
      · have h := h.1 c2
        refine lv_aload_n hx hb dX1_readSet_24 rfl (lv_at hl 0 rfl) ?_
        refine lv_iconst (v := 1) hx hb dX1_readSet_25 (by decide) ?_
        refine lv_iload_n hx hb dX1_readSet_26 rfl (lv_at hl 1 rfl) ?_
        refine done_i hw (my_runV (As := [.int 1, .int p1]) (rest := []) C hw 1 1 (hF 1 (by decide)) rfl rfl (mt_X1_isNumber l C.2.2.2.2.2.2.2 hF _ _ _ h) K_m_X1_95 K_i_X1_isNumber K_v_X1_isNumber K_n_X1 K_c_X1_isNumber hy_X1_isNumber ⟨Nat.le_of_ble_eq_true rfl, Nat.le_of_ble_eq_true rfl⟩ hl.1 rfl (Nat.le_of_ble_eq_true rfl) dX1_readSet_27 ⟨Nat.zero_le _, Nat.zero_le _⟩) (fun r1 w1 H locs h hw => ?_)
        refine lv_if_ne (tgt := 35) hx hb dX1_readSet_30 (by decide) (fun c3 => ?_) (fun c3 => ?_)
        · have h := h.2 c3
          refine lv_iload_n hx hb dX1_readSet_35 rfl (lv_at hl 3 rfl) ?_
          refine lv_aload_n hx hb dX1_readSet_36 rfl (lv_at hl 0 rfl) ?_
          refine g1_7 C hw (hF 1 (by decide)) K_f_X1_99 dX1_readSet_37 ?_
          refine done_i hw (my_runSN (As := [.int x3, .int (gI w1 1 7)]) (rest := []) C hw (mt_X8_hasBit l C.2.2.2.2.2.2.2 _ _ _ h) nw_X1_126 K_s_X8_hasBit K_n_X8 K_c_X8_hasBit hy_X8_hasBit ⟨Nat.le_of_ble_eq_true rfl, Nat.le_of_ble_eq_true rfl⟩ hl.1 rfl (Nat.le_of_ble_eq_true rfl) dX1_readSet_40 ⟨Nat.zero_le _, Nat.zero_le _⟩) (fun r2 w2 H locs h hw => ?_)
          refine lv_if_eq (tgt := 54) hx hb dX1_readSet_43 (by decide) (fun c4 => ?_) (fun c4 => ?_)
          · have h := h.1 c4
            refine lv_iload hx hb dX1_readSet_54 (lv_at hl 4 rfl) ?_
            refine lv_iload_n hx hb dX1_readSet_56 rfl (lv_at hl 2 rfl) ?_
            refine lv_icmp_ne (tgt := 68) hx hb dX1_readSet_57 (by decide) (fun c5 => ?_) (fun c5 => ?_)
            · have h := h.2 c5
              refine lv_iload_n hx hb dX1_readSet_68 rfl (lv_at hl 3 rfl) ?_
              refine lv_iconst (v := 1) hx hb dX1_readSet_69 (by decide) ?_
              refine lv_aload_n hx hb dX1_readSet_70 rfl (lv_at hl 0 rfl) ?_
              refine g1_7 C hw (hF 1 (by decide)) K_f_X1_99 dX1_readSet_71 ?_
              refine lv_ishl hx hb dX1_readSet_74 ?_
              refine lv_ior hx hb dX1_readSet_75 ?_
              refine lv_topi (fun y1 ey1 => ?_)
              have h := h y1 ey1
              refine lv_istore_n (lv' := [(3, .int y1), (0, .ref (eA E 1)), (1, .int p1), (2, .int p2), (4, .int x4)]) hx hb dX1_readSet_76 rfl hl (by decide) rfl (fun ls hl => ?_)
              refine lv_aload_n hx hb dX1_readSet_77 rfl (lv_at hl 1 rfl) ?_
              refine done_v hw (my_runV (As := []) (rest := []) C hw 1 1 (hF 1 (by decide)) rfl rfl (mt_X1_nextToken l C.2.2.2.2.2.2.2 hF _ h) K_m_X1_51 K_i_X1_nextToken K_v_X1_nextToken K_n_X1 K_c_X1_nextToken hy_X1_nextToken ⟨Nat.le_of_ble_eq_true rfl, Nat.le_of_ble_eq_true rfl⟩ hl.1 rfl (Nat.le_of_ble_eq_true rfl) dX1_readSet_78 ⟨Nat.zero_le _, Nat.zero_le _⟩) (fun w3 H locs h hw => ?_)
              obtain ⟨y2, ey2⟩ : ∃ y : Int32, y = x4 + 1 := ⟨_, rfl⟩
              have h := h y2 ey2
              refine lv_iinc (v := y2) (lv' := [(4, .int y2), (3, .int y1), (0, .ref (eA E 1)), (1, .int p1), (2, .int p2)]) hx hb dX1_readSet_81 hl (k := 4) rfl (by rw [ey2]; first | rfl | decide) (by decide) rfl (fun ls hl => ?_)
              refine lv_goto (tgt := 5) hx hb dX1_readSet_84 (by decide) ?_
              exact h _ _ hw _ (lv_sub hl [2, 3, 4, 1, 0] rfl)
            · have h := h.1 c5
              refine lv_aload_n hx hb dX1_readSet_60 rfl (lv_at hl 0 rfl) ?_
              refine lv_iconst (v := 4) hx hb dX1_readSet_61 (by decide) ?_
              refine done_i hw (my_runV (As := [.int 4]) (rest := []) C hw 1 1 (hF 1 (by decide)) rfl rfl (mt_X1_fail l C.2.2.2.2.2.2.2 hF _ _ h) K_m_X1_85 K_i_X1_fail K_v_X1_fail K_n_X1 K_c_X1_fail hy_X1_fail ⟨Nat.le_of_ble_eq_true rfl, Nat.le_of_ble_eq_true rfl⟩ hl.1 rfl (Nat.le_of_ble_eq_true rfl) dX1_readSet_62 ⟨Nat.zero_le _, Nat.zero_le _⟩) (fun r3 w4 H locs h hw => ?_)
              refine lv_pop hx hb dX1_readSet_65 rfl ?_
              refine lv_iconst (v := 0) hx hb dX1_readSet_66 (by decide) ?_
              rw [hQ]
              exact ret_i C hr hlk hw h dX1_readSet_67
          · have h := h.2 c4
            refine lv_aload_n hx hb dX1_readSet_46 rfl (lv_at hl 0 rfl) ?_
            refine lv_iconst (v := 3) hx hb dX1_readSet_47 (by decide) ?_
            refine done_i hw (my_runV (As := [.int 3]) (rest := []) C hw 1 1 (hF 1 (by decide)) rfl rfl (mt_X1_fail l C.2.2.2.2.2.2.2 hF _ _ h) K_m_X1_85 K_i_X1_fail K_v_X1_fail K_n_X1 K_c_X1_fail hy_X1_fail ⟨Nat.le_of_ble_eq_true rfl, Nat.le_of_ble_eq_true rfl⟩ hl.1 rfl (Nat.le_of_ble_eq_true rfl) dX1_readSet_48 ⟨Nat.zero_le _, Nat.zero_le _⟩) (fun r4 w5 H locs h hw => ?_)
            refine lv_pop hx hb dX1_readSet_51 rfl ?_
            refine lv_iconst (v := 0) hx hb dX1_readSet_52 (by decide) ?_
            rw [hQ]
            exact ret_i C hr hlk hw h dX1_readSet_53
        · have h := h.1 c3
          refine lv_iconst (v := 0) hx hb dX1_readSet_33 (by decide) ?_
          rw [hQ]
          exact ret_i C hr hlk hw h dX1_readSet_34
      · have h := h.2 c2
        refine lv_aload_n hx hb dX1_readSet_16 rfl (lv_at hl 0 rfl) ?_
        refine g1_5 C hw (hF 1 (by decide)) K_f_X1_54 dX1_readSet_17 ?_
        refine lv_iconst (v := 3) hx hb dX1_readSet_20 (by decide) ?_
        refine lv_icmp_ne (tgt := 87) hx hb dX1_readSet_21 (by decide) (fun c6 => ?_) (fun c6 => ?_)
        · have h := h.2 c6
          refine lv_iload_n hx hb dX1_readSet_87 rfl (lv_at hl 3 rfl) ?_
          rw [hQ]
          exact ret_i C hr hlk hw h dX1_readSet_88
        · have h := h.1 c6
          refine lv_aload_n hx hb dX1_readSet_24 rfl (lv_at hl 0 rfl) ?_
          refine lv_iconst (v := 1) hx hb dX1_readSet_25 (by decide) ?_
          refine lv_iload_n hx hb dX1_readSet_26 rfl (lv_at hl 1 rfl) ?_
          refine done_i hw (my_runV (As := [.int 1, .int p1]) (rest := []) C hw 1 1 (hF 1 (by decide)) rfl rfl (mt_X1_isNumber l C.2.2.2.2.2.2.2 hF _ _ _ h) K_m_X1_95 K_i_X1_isNumber K_v_X1_isNumber K_n_X1 K_c_X1_isNumber hy_X1_isNumber ⟨Nat.le_of_ble_eq_true rfl, Nat.le_of_ble_eq_true rfl⟩ hl.1 rfl (Nat.le_of_ble_eq_true rfl) dX1_readSet_27 ⟨Nat.zero_le _, Nat.zero_le _⟩) (fun r5 w6 H locs h hw => ?_)
          refine lv_if_ne (tgt := 35) hx hb dX1_readSet_30 (by decide) (fun c7 => ?_) (fun c7 => ?_)
          · have h := h.2 c7
            refine lv_iload_n hx hb dX1_readSet_35 rfl (lv_at hl 3 rfl) ?_
            refine lv_aload_n hx hb dX1_readSet_36 rfl (lv_at hl 0 rfl) ?_
            refine g1_7 C hw (hF 1 (by decide)) K_f_X1_99 dX1_readSet_37 ?_
            refine done_i hw (my_runSN (As := [.int x3, .int (gI w6 1 7)]) (rest := []) C hw (mt_X8_hasBit l C.2.2.2.2.2.2.2 _ _ _ h) nw_X1_126 K_s_X8_hasBit K_n_X8 K_c_X8_hasBit hy_X8_hasBit ⟨Nat.le_of_ble_eq_true rfl, Nat.le_of_ble_eq_true rfl⟩ hl.1 rfl (Nat.le_of_ble_eq_true rfl) dX1_readSet_40 ⟨Nat.zero_le _, Nat.zero_le _⟩) (fun r6 w7 H locs h hw => ?_)
            refine lv_if_eq (tgt := 54) hx hb dX1_readSet_43 (by decide) (fun c8 => ?_) (fun c8 => ?_)
            · have h := h.1 c8
              refine lv_iload hx hb dX1_readSet_54 (lv_at hl 4 rfl) ?_
              refine lv_iload_n hx hb dX1_readSet_56 rfl (lv_at hl 2 rfl) ?_
              refine lv_icmp_ne (tgt := 68) hx hb dX1_readSet_57 (by decide) (fun c9 => ?_) (fun c9 => ?_)
              · have h := h.2 c9
                refine lv_iload_n hx hb dX1_readSet_68 rfl (lv_at hl 3 rfl) ?_
                refine lv_iconst (v := 1) hx hb dX1_readSet_69 (by decide) ?_
                refine lv_aload_n hx hb dX1_readSet_70 rfl (lv_at hl 0 rfl) ?_
                refine g1_7 C hw (hF 1 (by decide)) K_f_X1_99 dX1_readSet_71 ?_
                refine lv_ishl hx hb dX1_readSet_74 ?_
                refine lv_ior hx hb dX1_readSet_75 ?_
                refine lv_topi (fun y3 ey3 => ?_)
                have h := h y3 ey3
                refine lv_istore_n (lv' := [(3, .int y3), (0, .ref (eA E 1)), (1, .int p1), (2, .int p2), (4, .int x4)]) hx hb dX1_readSet_76 rfl hl (by decide) rfl (fun ls hl => ?_)
                refine lv_aload_n hx hb dX1_readSet_77 rfl (lv_at hl 1 rfl) ?_
                refine done_v hw (my_runV (As := []) (rest := []) C hw 1 1 (hF 1 (by decide)) rfl rfl (mt_X1_nextToken l C.2.2.2.2.2.2.2 hF _ h) K_m_X1_51 K_i_X1_nextToken K_v_X1_nextToken K_n_X1 K_c_X1_nextToken hy_X1_nextToken ⟨Nat.le_of_ble_eq_true rfl, Nat.le_of_ble_eq_true rfl⟩ hl.1 rfl (Nat.le_of_ble_eq_true rfl) dX1_readSet_78 ⟨Nat.zero_le _, Nat.zero_le _⟩) (fun w8 H locs h hw => ?_)
                obtain ⟨y4, ey4⟩ : ∃ y : Int32, y = x4 + 1 := ⟨_, rfl⟩
                have h := h y4 ey4
                refine lv_iinc (v := y4) (lv' := [(4, .int y4), (3, .int y3), (0, .ref (eA E 1)), (1, .int p1), (2, .int p2)]) hx hb dX1_readSet_81 hl (k := 4) rfl (by rw [ey4]; first | rfl | decide) (by decide) rfl (fun ls hl => ?_)
                refine lv_goto (tgt := 5) hx hb dX1_readSet_84 (by decide) ?_
                exact h _ _ hw _ (lv_sub hl [2, 3, 4, 1, 0] rfl)
              · have h := h.1 c9
                refine lv_aload_n hx hb dX1_readSet_60 rfl (lv_at hl 0 rfl) ?_
                refine lv_iconst (v := 4) hx hb dX1_readSet_61 (by decide) ?_
                refine done_i hw (my_runV (As := [.int 4]) (rest := []) C hw 1 1 (hF 1 (by decide)) rfl rfl (mt_X1_fail l C.2.2.2.2.2.2.2 hF _ _ h) K_m_X1_85 K_i_X1_fail K_v_X1_fail K_n_X1 K_c_X1_fail hy_X1_fail ⟨Nat.le_of_ble_eq_true rfl, Nat.le_of_ble_eq_true rfl⟩ hl.1 rfl (Nat.le_of_ble_eq_true rfl) dX1_readSet_62 ⟨Nat.zero_le _, Nat.zero_le _⟩) (fun r7 w9 H locs h hw => ?_)
                refine lv_pop hx hb dX1_readSet_65 rfl ?_
                refine lv_iconst (v := 0) hx hb dX1_readSet_66 (by decide) ?_
                rw [hQ]
                exact ret_i C hr hlk hw h dX1_readSet_67
            · have h := h.2 c8
              refine lv_aload_n hx hb dX1_readSet_46 rfl (lv_at hl 0 rfl) ?_
              refine lv_iconst (v := 3) hx hb dX1_readSet_47 (by decide) ?_
              refine done_i hw (my_runV (As := [.int 3]) (rest := []) C hw 1 1 (hF 1 (by decide)) rfl rfl (mt_X1_fail l C.2.2.2.2.2.2.2 hF _ _ h) K_m_X1_85 K_i_X1_fail K_v_X1_fail K_n_X1 K_c_X1_fail hy_X1_fail ⟨Nat.le_of_ble_eq_true rfl, Nat.le_of_ble_eq_true rfl⟩ hl.1 rfl (Nat.le_of_ble_eq_true rfl) dX1_readSet_48 ⟨Nat.zero_le _, Nat.zero_le _⟩) (fun r8 w10 H locs h hw => ?_)
              refine lv_pop hx hb dX1_readSet_51 rfl ?_
              refine lv_iconst (v := 0) hx hb dX1_readSet_52 (by decide) ?_
              rw [hQ]
              exact ret_i C hr hlk hw h dX1_readSet_53
          · have h := h.1 c7
            refine lv_iconst (v := 0) hx hb dX1_readSet_33 (by decide) ?_
            rw [hQ]
            exact ret_i C hr hlk hw h dX1_readSet_34
  refine lv_iconst (v := 0) hx hb dX1_readSet_0 (by decide) ?_
  refine lv_istore_n (lv' := [(3, .int 0), (0, .ref (eA E 1)), (1, .int p1), (2, .int p2)]) hx hb dX1_readSet_1 rfl hl (by decide) rfl (fun ls hl => ?_)
  refine lv_iconst (v := 0) hx hb dX1_readSet_2 (by decide) ?_
  refine lv_istore (lv' := [(4, .int 0), (3, .int 0), (0, .ref (eA E 1)), (1, .int p1), (2, .int p2)]) hx hb dX1_readSet_3 hl (by decide) rfl (fun ls hl => ?_)
  exact h _ _ hw _ (lv_sub hl [2, 3, 4, 1, 0] rfl)
theorem hy_X1_readLock : yX1_readLock.cls ≠ "java/lang/invoke/MethodHandle" ∧ yX1_readLock.cls ≠ "java/lang/invoke/VarHandle" ∧ (parseMethodDescriptor yX1_readLock.desc).map (fun d => d.parameters.length) = some 0 := by decide +kernel
def wp_X1_readLock (w : Wd) (Post : Int32 → Wd → Prop) : Prop :=
  wp_X1_nextToken w (fun w1 => wp_X1_isNumber w1 0 ((gI w1 (27 + 7 * 0) 6) - 1) (fun r1 w2 => (r1 = 0 → (Post 0 w2)) ∧ (¬ r1 = 0 → (∀ y1 : Int32, y1 = gI w2 1 7 → (wp_X1_nextToken w2 (fun w3 => wp_X6_hasLadder 0 w3 y1 (fun r2 w4 => (r2 = 0 → (Post 0 w4)) ∧ (¬ r2 = 0 → (vp_in y1 6 ∧ (wp_X1_isNumber w4 1 (gA w4 (27 + 7 * 0 + 1) y1.toNatClampNeg) (fun r3 w5 => (r3 = 0 → (Post 0 w5)) ∧ (¬ r3 = 0 → (vp_in y1 6 ∧ (wp_X8_hasBit w5 (gA w5 (27 + 7 * 0 + 5) y1.toNatClampNeg) (gI w5 1 7) (fun r4 w6 => (r4 = 0 → (vp_in y1 6 ∧ (∀ y2 : Int32, y2 = (gA w6 (27 + 7 * 0 + 5) y1.toNatClampNeg) ||| ((1 : Int32) <<< ((gI w6 1 7) &&& 31)) → (vp_in y1 6 ∧ (wp_X1_nextToken (sA w6 (27 + 7 * 0 + 5) y1.toNatClampNeg y2) (fun w7 => Post 1 w7)))))) ∧ (¬ r4 = 0 → (wp_X1_fail w6 3 (fun r5 w8 => (r5 = 0 ∨ r5 = 1) ∧ Post r5 w8))))))))))))))))))
set_option maxHeartbeats 4000000 in
set_option maxRecDepth 100000 in
theorem mt_X1_readLock (l : Launch) {E : En} (hI : Inj E) (hF : ∀ o, (o < 15 ∨ 27 ≤ o ∧ o < 157) → o ∈ eL E) (w : Wd) {Post : Int32 → Wd → Prop} (h : wp_X1_readLock w Post) : MI l E yX1_readLock cX1_readLock 2 (some .boolean) 2 43 [.ref (eA E 1)] w Post := by
  refine MG.intro hI (by decide +kernel) (Nat.le_of_ble_eq_true rfl) ?_
  intro p e s m args below meth c Q C hr hlk hQ hw ls hl
  have hx := C.1
  have hb := C.2.1
  have hl : lv_has ls 2 [(0, .ref (eA E 1))] := hl
  unfold wp_X1_readLock at h
  refine lv_aload_n hx hb dX1_readLock_0 rfl (lv_at hl 0 rfl) ?_
  refine done_v hw (my_runV (As := []) (rest := []) C hw 1 1 (hF 1 (by decide)) rfl rfl (mt_X1_nextToken l C.2.2.2.2.2.2.2 hF _ h) K_m_X1_51 K_i_X1_nextToken K_v_X1_nextToken K_n_X1 K_c_X1_nextToken hy_X1_nextToken ⟨Nat.le_of_ble_eq_true rfl, Nat.le_of_ble_eq_true rfl⟩ hl.1 rfl (Nat.le_of_ble_eq_true rfl) dX1_readLock_1 ⟨Nat.zero_le _, Nat.zero_le _⟩) (fun w1 H locs h hw => ?_)
  refine lv_aload_n hx hb dX1_readLock_4 rfl (lv_at hl 0 rfl) ?_
  refine lv_iconst (v := 0) hx hb dX1_readLock_5 (by decide) ?_
  refine lv_aload_n hx hb dX1_readLock_6 rfl (lv_at hl 0 rfl) ?_
  refine g1_0 C hw (hF 1 (by decide)) K_f_X1_12 dX1_readLock_7 ?_
  refine g6_6 C hw 0 (show 0 < 2 by decide) (hF _ (by have := (show 0 < 2 by decide); omega)) K_f_X1_92 dX1_readLock_10 ?_
  refine lv_iconst (v := 1) hx hb dX1_readLock_13 (by decide) ?_
  refine lv_isub hx hb dX1_readLock_14 ?_
  refine done_i hw (my_runV (As := [.int 0, .int ((gI w1 (27 + 7 * 0) 6) - 1)]) (rest := []) C hw 1 1 (hF 1 (by decide)) rfl rfl (mt_X1_isNumber l C.2.2.2.2.2.2.2 hF _ _ _ h) K_m_X1_95 K_i_X1_isNumber K_v_X1_isNumber K_n_X1 K_c_X1_isNumber hy_X1_isNumber ⟨Nat.le_of_ble_eq_true rfl, Nat.le_of_ble_eq_true rfl⟩ hl.1 rfl (Nat.le_of_ble_eq_true rfl) dX1_readLock_15 ⟨Nat.zero_le _, Nat.zero_le _⟩) (fun r1 w2 H locs h hw => ?_)
  refine lv_if_ne (tgt := 23) hx hb dX1_readLock_18 (by decide) (fun c1 => ?_) (fun c1 => ?_)
  · have h := h.2 c1
    refine lv_aload_n hx hb dX1_readLock_23 rfl (lv_at hl 0 rfl) ?_
    refine g1_7 C hw (hF 1 (by decide)) K_f_X1_99 dX1_readLock_24 ?_
    refine lv_topi (fun y1 ey1 => ?_)
    have h := h y1 ey1
    refine lv_istore_n (lv' := [(1, .int y1), (0, .ref (eA E 1))]) hx hb dX1_readLock_27 rfl hl (by decide) rfl (fun ls hl => ?_)
    refine lv_aload_n hx hb dX1_readLock_28 rfl (lv_at hl 1 rfl) ?_
    refine done_v hw (my_runV (As := []) (rest := []) C hw 1 1 (hF 1 (by decide)) rfl rfl (mt_X1_nextToken l C.2.2.2.2.2.2.2 hF _ h) K_m_X1_51 K_i_X1_nextToken K_v_X1_nextToken K_n_X1 K_c_X1_nextToken hy_X1_nextToken ⟨Nat.le_of_ble_eq_true rfl, Nat.le_of_ble_eq_true rfl⟩ hl.1 rfl (Nat.le_of_ble_eq_true rfl) dX1_readLock_29 ⟨Nat.zero_le _, Nat.zero_le _⟩) (fun w3 H locs h hw => ?_)
    refine lv_aload_n hx hb dX1_readLock_32 rfl (lv_at hl 1 rfl) ?_
    refine g1_0 C hw (hF 1 (by decide)) K_f_X1_12 dX1_readLock_33 ?_
    refine lv_iload_n hx hb dX1_readLock_36 rfl (lv_at hl 0 rfl) ?_
    refine done_i hw (my_runV (As := [.int y1]) (rest := []) C hw (27 + 7 * 0) 6 (hF _ (by have := (show 0 < 2 by decide); omega)) (ce_se (show 0 < 2 by decide)) rfl (mt_X6_hasLadder l C.2.2.2.2.2.2.2 hF 0 (show 0 < 2 by decide) _ _ h) K_m_X1_129 K_i_X6_hasLadder K_v_X6_hasLadder K_n_X6 K_c_X6_hasLadder hy_X6_hasLadder ⟨Nat.le_of_ble_eq_true rfl, Nat.le_of_ble_eq_true rfl⟩ hl.1 rfl (Nat.le_of_ble_eq_true rfl) dX1_readLock_37 ⟨Nat.zero_le _, Nat.zero_le _⟩) (fun r2 w4 H locs h hw => ?_)
    refine lv_if_eq (tgt := 60) hx hb dX1_readLock_40 (by decide) (fun c2 => ?_) (fun c2 => ?_)
    · have h := h.1 c2
      refine lv_iconst (v := 0) hx hb dX1_readLock_60 (by decide) ?_
      rw [hQ]
      exact ret_z C hr hlk hw h (by decide) dX1_readLock_61
    · have h := h.2 c2
      refine lv_aload_n hx hb dX1_readLock_43 rfl (lv_at hl 1 rfl) ?_
      refine lv_iconst (v := 1) hx hb dX1_readLock_44 (by decide) ?_
      refine lv_aload_n hx hb dX1_readLock_45 rfl (lv_at hl 1 rfl) ?_
      refine g1_0 C hw (hF 1 (by decide)) K_f_X1_12 dX1_readLock_46 ?_
      refine g6_0 C hw 0 (show 0 < 2 by decide) (hF _ (by have := (show 0 < 2 by decide); omega)) K_f_X1_107 dX1_readLock_49 ?_
      refine lv_iload_n hx hb dX1_readLock_52 rfl (lv_at hl 0 rfl) ?_
      obtain ⟨hi1, h⟩ := h
      refine r_iald C hw (27 + 7 * 0 + 1) 6 (hF _ (by have := (show 0 < 2 by decide); omega)) (ce_sea 1 (show 0 < 2 by decide) (by decide) (by decide)) hi1 dX1_readLock_53 ?_
      refine done_i hw (my_runV (As := [.int 1, .int (gA w4 (27 + 7 * 0 + 1) y1.toNatClampNeg)]) (rest := []) C hw 1 1 (hF 1 (by decide)) rfl rfl (mt_X1_isNumber l C.2.2.2.2.2.2.2 hF _ _ _ h) K_m_X1_95 K_i_X1_isNumber K_v_X1_isNumber K_n_X1 K_c_X1_isNumber hy_X1_isNumber ⟨Nat.le_of_ble_eq_true rfl, Nat.le_of_ble_eq_true rfl⟩ hl.1 rfl (Nat.le_of_ble_eq_true rfl) dX1_readLock_54 ⟨Nat.zero_le _, Nat.zero_le _⟩) (fun r3 w5 H locs h hw => ?_)
      refine lv_if_ne (tgt := 62) hx hb dX1_readLock_57 (by decide) (fun c3 => ?_) (fun c3 => ?_)
      · have h := h.2 c3
        refine lv_aload_n hx hb dX1_readLock_62 rfl (lv_at hl 1 rfl) ?_
        refine g1_0 C hw (hF 1 (by decide)) K_f_X1_12 dX1_readLock_63 ?_
        refine g6_4 C hw 0 (show 0 < 2 by decide) (hF _ (by have := (show 0 < 2 by decide); omega)) K_f_X1_132 dX1_readLock_66 ?_
        refine lv_iload_n hx hb dX1_readLock_69 rfl (lv_at hl 0 rfl) ?_
        obtain ⟨hi2, h⟩ := h
        refine r_iald C hw (27 + 7 * 0 + 5) 6 (hF _ (by have := (show 0 < 2 by decide); omega)) (ce_sea 5 (show 0 < 2 by decide) (by decide) (by decide)) hi2 dX1_readLock_70 ?_
        refine lv_aload_n hx hb dX1_readLock_71 rfl (lv_at hl 1 rfl) ?_
        refine g1_7 C hw (hF 1 (by decide)) K_f_X1_99 dX1_readLock_72 ?_
        refine done_i hw (my_runSN (As := [.int (gA w5 (27 + 7 * 0 + 5) y1.toNatClampNeg), .int (gI w5 1 7)]) (rest := []) C hw (mt_X8_hasBit l C.2.2.2.2.2.2.2 _ _ _ h) nw_X1_126 K_s_X8_hasBit K_n_X8 K_c_X8_hasBit hy_X8_hasBit ⟨Nat.le_of_ble_eq_true rfl, Nat.le_of_ble_eq_true rfl⟩ hl.1 rfl (Nat.le_of_ble_eq_true rfl) dX1_readLock_75 ⟨Nat.zero_le _, Nat.zero_le _⟩) (fun r4 w6 H locs h hw => ?_)
        refine lv_if_eq (tgt := 87) hx hb dX1_readLock_78 (by decide) (fun c4 => ?_) (fun c4 => ?_)
        · have h := h.1 c4
          refine lv_aload_n hx hb dX1_readLock_87 rfl (lv_at hl 1 rfl) ?_
          refine g1_0 C hw (hF 1 (by decide)) K_f_X1_12 dX1_readLock_88 ?_
          refine g6_4 C hw 0 (show 0 < 2 by decide) (hF _ (by have := (show 0 < 2 by decide); omega)) K_f_X1_132 dX1_readLock_91 ?_
          refine lv_iload_n hx hb dX1_readLock_94 rfl (lv_at hl 0 rfl) ?_
          refine lv_dup2_11 hx hb dX1_readLock_95 rfl rfl ?_
          obtain ⟨hi3, h⟩ := h
          refine r_iald C hw (27 + 7 * 0 + 5) 6 (hF _ (by have := (show 0 < 2 by decide); omega)) (ce_sea 5 (show 0 < 2 by decide) (by decide) (by decide)) hi3 dX1_readLock_96 ?_
          refine lv_iconst (v := 1) hx hb dX1_readLock_97 (by decide) ?_
          refine lv_aload_n hx hb dX1_readLock_98 rfl (lv_at hl 1 rfl) ?_
          refine g1_7 C hw (hF 1 (by decide)) K_f_X1_99 dX1_readLock_99 ?_
          refine lv_ishl hx hb dX1_readLock_102 ?_
          refine lv_ior hx hb dX1_readLock_103 ?_
          refine lv_topi (fun y2 ey2 => ?_)
          have h := h y2 ey2
          obtain ⟨hi4, h⟩ := h
          refine r_iast C hw (27 + 7 * 0 + 5) 6 (hF _ (by have := (show 0 < 2 by decide); omega)) (fun _ => ce_sea 5 (show 0 < 2 by decide) (by decide) (by decide)) hi4 dX1_readLock_104 (fun H locs hw => ?_)
          refine lv_aload_n hx hb dX1_readLock_105 rfl (lv_at hl 1 rfl) ?_
          refine done_v hw (my_runV (As := []) (rest := []) C hw 1 1 (hF 1 (by decide)) rfl rfl (mt_X1_nextToken l C.2.2.2.2.2.2.2 hF _ h) K_m_X1_51 K_i_X1_nextToken K_v_X1_nextToken K_n_X1 K_c_X1_nextToken hy_X1_nextToken ⟨Nat.le_of_ble_eq_true rfl, Nat.le_of_ble_eq_true rfl⟩ hl.1 rfl (Nat.le_of_ble_eq_true rfl) dX1_readLock_106 ⟨Nat.zero_le _, Nat.zero_le _⟩) (fun w7 H locs h hw => ?_)
          refine lv_iconst (v := 1) hx hb dX1_readLock_109 (by decide) ?_
          rw [hQ]
          exact ret_z C hr hlk hw h (by decide) dX1_readLock_110
        · have h := h.2 c4
          refine lv_aload_n hx hb dX1_readLock_81 rfl (lv_at hl 1 rfl) ?_
          refine lv_iconst (v := 3) hx hb dX1_readLock_82 (by decide) ?_
          refine done_i hw (my_runV (As := [.int 3]) (rest := []) C hw 1 1 (hF 1 (by decide)) rfl rfl (mt_X1_fail l C.2.2.2.2.2.2.2 hF _ _ h) K_m_X1_85 K_i_X1_fail K_v_X1_fail K_n_X1 K_c_X1_fail hy_X1_fail ⟨Nat.le_of_ble_eq_true rfl, Nat.le_of_ble_eq_true rfl⟩ hl.1 rfl (Nat.le_of_ble_eq_true rfl) dX1_readLock_83 ⟨Nat.zero_le _, Nat.zero_le _⟩) (fun r5 w8 H locs h hw => ?_)
          rw [hQ]
          exact ret_z C hr hlk hw h.2 h.1 dX1_readLock_86
      · have h := h.1 c3
        refine lv_iconst (v := 0) hx hb dX1_readLock_60 (by decide) ?_
        rw [hQ]
        exact ret_z C hr hlk hw h (by decide) dX1_readLock_61
  · have h := h.1 c1
    refine lv_iconst (v := 0) hx hb dX1_readLock_21 (by decide) ?_
    rw [hQ]
    exact ret_z C hr hlk hw h (by decide) dX1_readLock_22
theorem hy_X1_readTokens : yX1_readTokens.cls ≠ "java/lang/invoke/MethodHandle" ∧ yX1_readTokens.cls ≠ "java/lang/invoke/VarHandle" ∧ (parseMethodDescriptor yX1_readTokens.desc).map (fun d => d.parameters.length) = some 0 := by decide +kernel
def wp_X1_readTokens (w : Wd) (Post : Int32 → Wd → Prop) : Prop :=
  ∀ J24 : Int32 → Wd → Prop, (∀ (x1 : Int32) (w : Wd), ((3 ≤ x1 → (Post 1 w)) ∧ (¬ 3 ≤ x1 → (wp_X1_isNumber w 0 9 (fun r2 w3 => (r2 = 0 → (Post 0 w3)) ∧ (¬ r2 = 0 → (∀ y1 : Int32, y1 = gI w3 1 7 → (vp_in x1 3 ∧ (wp_X1_nextToken (sA w3 (27 + 7 * 0 + 6) x1.toNatClampNeg y1) (fun w4 => ∀ y2 : Int32, y2 = x1 + 1 → (J24 y2 w4)))))))))) → J24 x1 w) →
  ((gI w 1 9) = 0 → (wp_X1_nextToken (sI w 1 9 1) (fun w1 => J24 0 w1))) ∧ (¬ (gI w 1 9) = 0 → (wp_X1_fail w 3 (fun r1 w2 => (r1 = 0 ∨ r1 = 1) ∧ Post r1 w2)))
set_option maxHeartbeats 4000000 in
set_option maxRecDepth 100000 in
theorem mt_X1_readTokens (l : Launch) {E : En} (hI : Inj E) (hF : ∀ o, (o < 15 ∨ 27 ≤ o ∧ o < 157) → o ∈ eL E) (w : Wd) {Post : Int32 → Wd → Prop} (h : wp_X1_readTokens w Post) : MI l E yX1_readTokens cX1_readTokens 2 (some .boolean) 2 43 [.ref (eA E 1)] w Post := by
  refine MG.intro hI (by decide +kernel) (Nat.le_of_ble_eq_true rfl) ?_
  intro p e s m args below meth c Q C hr hlk hQ hw ls hl
  have hx := C.1
  have hb := C.2.1
  have hl : lv_has ls 2 [(0, .ref (eA E 1))] := hl
  unfold wp_X1_readTokens at h
  have h := h (fun x1 w => Jp E p l e (Rm 2 43) s m args below meth c Q 2 24 [(0, .ref (eA E 1)), (1, .int x1)] w)
  have h := h ?_
  rotate_left
  · intro x1 w h H locs hw ls hl
    refine lv_iload_n hx hb dX1_readTokens_24 rfl (lv_at hl 1 rfl) ?_
    refine lv_iconst (v := 3) hx hb dX1_readTokens_25 (by decide) ?_
    refine lv_icmp_ge (tgt := 64) hx hb dX1_readTokens_26 (by decide) (fun c2 => ?_) (fun c2 => ?_)
    · have h := h.1 c2
      refine lv_iconst (v := 1) hx hb dX1_readTokens_64 (by decide) ?_
      rw [hQ]
      exact ret_z C hr hlk hw h (by decide) dX1_readTokens_65
    · have h := h.2 c2
      refine lv_aload_n hx hb dX1_readTokens_29 rfl (lv_at hl 0 rfl) ?_
      refine lv_iconst (v := 0) hx hb dX1_readTokens_30 (by decide) ?_
      refine lv_bipush (v := 9) hx hb dX1_readTokens_31 (by decide) ?_
      refine done_i hw (my_runV (As := [.int 0, .int 9]) (rest := []) C hw 1 1 (hF 1 (by decide)) rfl rfl (mt_X1_isNumber l C.2.2.2.2.2.2.2 hF _ _ _ h) K_m_X1_95 K_i_X1_isNumber K_v_X1_isNumber K_n_X1 K_c_X1_isNumber hy_X1_isNumber ⟨Nat.le_of_ble_eq_true rfl, Nat.le_of_ble_eq_true rfl⟩ hl.1 rfl (Nat.le_of_ble_eq_true rfl) dX1_readTokens_33 ⟨Nat.zero_le _, Nat.zero_le _⟩) (fun r2 w3 H locs h hw => ?_)
      refine lv_if_ne (tgt := 41) hx hb dX1_readTokens_36 (by decide) (fun c3 => ?_) (fun c3 => ?_)
      · have h := h.2 c3
        refine lv_aload_n hx hb dX1_readTokens_41 rfl (lv_at hl 0 rfl) ?_
        refine g1_0 C hw (hF 1 (by decide)) K_f_X1_12 dX1_readTokens_42 ?_
        refine g6_5 C hw 0 (show 0 < 2 by decide) (hF _ (by have := (show 0 < 2 by decide); omega)) K_f_X1_135 dX1_readTokens_45 ?_
        refine lv_iload_n hx hb dX1_readTokens_48 rfl (lv_at hl 1 rfl) ?_
        refine lv_aload_n hx hb dX1_readTokens_49 rfl (lv_at hl 0 rfl) ?_
        refine g1_7 C hw (hF 1 (by decide)) K_f_X1_99 dX1_readTokens_50 ?_
        refine lv_topi (fun y1 ey1 => ?_)
        have h := h y1 ey1
        obtain ⟨hi1, h⟩ := h
        refine r_iast C hw (27 + 7 * 0 + 6) 3 (hF _ (by have := (show 0 < 2 by decide); omega)) (fun _ => ce_sea 6 (show 0 < 2 by decide) (by decide) (by decide)) hi1 dX1_readTokens_53 (fun H locs hw => ?_)
        refine lv_aload_n hx hb dX1_readTokens_54 rfl (lv_at hl 0 rfl) ?_
        refine done_v hw (my_runV (As := []) (rest := []) C hw 1 1 (hF 1 (by decide)) rfl rfl (mt_X1_nextToken l C.2.2.2.2.2.2.2 hF _ h) K_m_X1_51 K_i_X1_nextToken K_v_X1_nextToken K_n_X1 K_c_X1_nextToken hy_X1_nextToken ⟨Nat.le_of_ble_eq_true rfl, Nat.le_of_ble_eq_true rfl⟩ hl.1 rfl (Nat.le_of_ble_eq_true rfl) dX1_readTokens_55 ⟨Nat.zero_le _, Nat.zero_le _⟩) (fun w4 H locs h hw => ?_)
        obtain ⟨y2, ey2⟩ : ∃ y : Int32, y = x1 + 1 := ⟨_, rfl⟩
        have h := h y2 ey2
        refine lv_iinc (v := y2) (lv' := [(1, .int y2), (0, .ref (eA E 1))]) hx hb dX1_readTokens_58 hl (k := 1) rfl (by rw [ey2]; first | rfl | decide) (by decide) rfl (fun ls hl => ?_)
        refine lv_goto (tgt := 24) hx hb dX1_readTokens_61 (by decide) ?_
        exact h _ _ hw _ (lv_sub hl [1, 0] rfl)
      · have h := h.1 c3
        refine lv_iconst (v := 0) hx hb dX1_readTokens_39 (by decide) ?_
        rw [hQ]
        exact ret_z C hr hlk hw h (by decide) dX1_readTokens_40
  refine lv_aload_n hx hb dX1_readTokens_0 rfl (lv_at hl 0 rfl) ?_
  refine g1_9 C hw (hF 1 (by decide)) K_f_X1_41 dX1_readTokens_1 ?_
  refine lv_if_eq (tgt := 13) hx hb dX1_readTokens_4 (by decide) (fun c1 => ?_) (fun c1 => ?_)
  · have h := h.1 c1
    refine lv_aload_n hx hb dX1_readTokens_13 rfl (lv_at hl 0 rfl) ?_
    refine lv_iconst (v := 1) hx hb dX1_readTokens_14 (by decide) ?_
    refine p1_9 C hw (hF 1 (by decide)) (by decide) K_f_X1_41 dX1_readTokens_15 (fun H locs hw => ?_)
    refine lv_aload_n hx hb dX1_readTokens_18 rfl (lv_at hl 0 rfl) ?_
    refine done_v hw (my_runV (As := []) (rest := []) C hw 1 1 (hF 1 (by decide)) rfl rfl (mt_X1_nextToken l C.2.2.2.2.2.2.2 hF _ h) K_m_X1_51 K_i_X1_nextToken K_v_X1_nextToken K_n_X1 K_c_X1_nextToken hy_X1_nextToken ⟨Nat.le_of_ble_eq_true rfl, Nat.le_of_ble_eq_true rfl⟩ hl.1 rfl (Nat.le_of_ble_eq_true rfl) dX1_readTokens_19 ⟨Nat.zero_le _, Nat.zero_le _⟩) (fun w1 H locs h hw => ?_)
    refine lv_iconst (v := 0) hx hb dX1_readTokens_22 (by decide) ?_
    refine lv_istore_n (lv' := [(1, .int 0), (0, .ref (eA E 1))]) hx hb dX1_readTokens_23 rfl hl (by decide) rfl (fun ls hl => ?_)
    exact h _ _ hw _ (lv_sub hl [1, 0] rfl)
  · have h := h.2 c1
    refine lv_aload_n hx hb dX1_readTokens_7 rfl (lv_at hl 0 rfl) ?_
    refine lv_iconst (v := 3) hx hb dX1_readTokens_8 (by decide) ?_
    refine done_i hw (my_runV (As := [.int 3]) (rest := []) C hw 1 1 (hF 1 (by decide)) rfl rfl (mt_X1_fail l C.2.2.2.2.2.2.2 hF _ _ h) K_m_X1_85 K_i_X1_fail K_v_X1_fail K_n_X1 K_c_X1_fail hy_X1_fail ⟨Nat.le_of_ble_eq_true rfl, Nat.le_of_ble_eq_true rfl⟩ hl.1 rfl (Nat.le_of_ble_eq_true rfl) dX1_readTokens_9 ⟨Nat.zero_le _, Nat.zero_le _⟩) (fun r1 w2 H locs h hw => ?_)
    rw [hQ]
    exact ret_z C hr hlk hw h.2 h.1 dX1_readTokens_12
theorem hy_X1_readFirst : yX1_readFirst.cls ≠ "java/lang/invoke/MethodHandle" ∧ yX1_readFirst.cls ≠ "java/lang/invoke/VarHandle" ∧ (parseMethodDescriptor yX1_readFirst.desc).map (fun d => d.parameters.length) = some 0 := by decide +kernel
def wp_X1_readFirst (w : Wd) (Post : Int32 → Wd → Prop) : Prop :=
  ((gI w 1 10) = 0 → (wp_X1_nextToken (sI w 1 10 1) (fun w1 => wp_X1_isNumber w1 0 1 (fun r1 w2 => (r1 = 0 → (Post 0 w2)) ∧ (¬ r1 = 0 → (∀ y1 : Int32, y1 = gI w2 1 7 → (wp_X1_nextToken (sI w2 (27 + 7 * 0) 7 y1) (fun w3 => Post 1 w3)))))))) ∧ (¬ (gI w 1 10) = 0 → (wp_X1_fail w 3 (fun r2 w4 => (r2 = 0 ∨ r2 = 1) ∧ Post r2 w4)))
set_option maxHeartbeats 4000000 in
set_option maxRecDepth 100000 in
theorem mt_X1_readFirst (l : Launch) {E : En} (hI : Inj E) (hF : ∀ o, (o < 15 ∨ 27 ≤ o ∧ o < 157) → o ∈ eL E) (w : Wd) {Post : Int32 → Wd → Prop} (h : wp_X1_readFirst w Post) : MI l E yX1_readFirst cX1_readFirst 1 (some .boolean) 2 43 [.ref (eA E 1)] w Post := by
  refine MG.intro hI (by decide +kernel) (Nat.le_of_ble_eq_true rfl) ?_
  intro p e s m args below meth c Q C hr hlk hQ hw ls hl
  have hx := C.1
  have hb := C.2.1
  have hl : lv_has ls 1 [(0, .ref (eA E 1))] := hl
  unfold wp_X1_readFirst at h
  refine lv_aload_n hx hb dX1_readFirst_0 rfl (lv_at hl 0 rfl) ?_
  refine g1_10 C hw (hF 1 (by decide)) K_f_X1_45 dX1_readFirst_1 ?_
  refine lv_if_eq (tgt := 13) hx hb dX1_readFirst_4 (by decide) (fun c1 => ?_) (fun c1 => ?_)
  · have h := h.1 c1
    refine lv_aload_n hx hb dX1_readFirst_13 rfl (lv_at hl 0 rfl) ?_
    refine lv_iconst (v := 1) hx hb dX1_readFirst_14 (by decide) ?_
    refine p1_10 C hw (hF 1 (by decide)) (by decide) K_f_X1_45 dX1_readFirst_15 (fun H locs hw => ?_)
    refine lv_aload_n hx hb dX1_readFirst_18 rfl (lv_at hl 0 rfl) ?_
    refine done_v hw (my_runV (As := []) (rest := []) C hw 1 1 (hF 1 (by decide)) rfl rfl (mt_X1_nextToken l C.2.2.2.2.2.2.2 hF _ h) K_m_X1_51 K_i_X1_nextToken K_v_X1_nextToken K_n_X1 K_c_X1_nextToken hy_X1_nextToken ⟨Nat.le_of_ble_eq_true rfl, Nat.le_of_ble_eq_true rfl⟩ hl.1 rfl (Nat.le_of_ble_eq_true rfl) dX1_readFirst_19 ⟨Nat.zero_le _, Nat.zero_le _⟩) (fun w1 H locs h hw => ?_)
    refine lv_aload_n hx hb dX1_readFirst_22 rfl (lv_at hl 0 rfl) ?_
    refine lv_iconst (v := 0) hx hb dX1_readFirst_23 (by decide) ?_
    refine lv_iconst (v := 1) hx hb dX1_readFirst_24 (by decide) ?_
    refine done_i hw (my_runV (As := [.int 0, .int 1]) (rest := []) C hw 1 1 (hF 1 (by decide)) rfl rfl (mt_X1_isNumber l C.2.2.2.2.2.2.2 hF _ _ _ h) K_m_X1_95 K_i_X1_isNumber K_v_X1_isNumber K_n_X1 K_c_X1_isNumber hy_X1_isNumber ⟨Nat.le_of_ble_eq_true rfl, Nat.le_of_ble_eq_true rfl⟩ hl.1 rfl (Nat.le_of_ble_eq_true rfl) dX1_readFirst_25 ⟨Nat.zero_le _, Nat.zero_le _⟩) (fun r1 w2 H locs h hw => ?_)
    refine lv_if_ne (tgt := 33) hx hb dX1_readFirst_28 (by decide) (fun c2 => ?_) (fun c2 => ?_)
    · have h := h.2 c2
      refine lv_aload_n hx hb dX1_readFirst_33 rfl (lv_at hl 0 rfl) ?_
      refine g1_0 C hw (hF 1 (by decide)) K_f_X1_12 dX1_readFirst_34 ?_
      refine lv_aload_n hx hb dX1_readFirst_37 rfl (lv_at hl 0 rfl) ?_
      refine g1_7 C hw (hF 1 (by decide)) K_f_X1_99 dX1_readFirst_38 ?_
      refine lv_topi (fun y1 ey1 => ?_)
      have h := h y1 ey1
      refine p6_7 C hw 0 (show 0 < 2 by decide) (hF _ (by have := (show 0 < 2 by decide); omega)) K_f_X1_137 dX1_readFirst_41 (fun H locs hw => ?_)
      refine lv_aload_n hx hb dX1_readFirst_44 rfl (lv_at hl 0 rfl) ?_
      refine done_v hw (my_runV (As := []) (rest := []) C hw 1 1 (hF 1 (by decide)) rfl rfl (mt_X1_nextToken l C.2.2.2.2.2.2.2 hF _ h) K_m_X1_51 K_i_X1_nextToken K_v_X1_nextToken K_n_X1 K_c_X1_nextToken hy_X1_nextToken ⟨Nat.le_of_ble_eq_true rfl, Nat.le_of_ble_eq_true rfl⟩ hl.1 rfl (Nat.le_of_ble_eq_true rfl) dX1_readFirst_45 ⟨Nat.zero_le _, Nat.zero_le _⟩) (fun w3 H locs h hw => ?_)
      refine lv_iconst (v := 1) hx hb dX1_readFirst_48 (by decide) ?_
      rw [hQ]
      exact ret_z C hr hlk hw h (by decide) dX1_readFirst_49
    · have h := h.1 c2
      refine lv_iconst (v := 0) hx hb dX1_readFirst_31 (by decide) ?_
      rw [hQ]
      exact ret_z C hr hlk hw h (by decide) dX1_readFirst_32
  · have h := h.2 c1
    refine lv_aload_n hx hb dX1_readFirst_7 rfl (lv_at hl 0 rfl) ?_
    refine lv_iconst (v := 3) hx hb dX1_readFirst_8 (by decide) ?_
    refine done_i hw (my_runV (As := [.int 3]) (rest := []) C hw 1 1 (hF 1 (by decide)) rfl rfl (mt_X1_fail l C.2.2.2.2.2.2.2 hF _ _ h) K_m_X1_85 K_i_X1_fail K_v_X1_fail K_n_X1 K_c_X1_fail hy_X1_fail ⟨Nat.le_of_ble_eq_true rfl, Nat.le_of_ble_eq_true rfl⟩ hl.1 rfl (Nat.le_of_ble_eq_true rfl) dX1_readFirst_9 ⟨Nat.zero_le _, Nat.zero_le _⟩) (fun r2 w4 H locs h hw => ?_)
    rw [hQ]
    exact ret_z C hr hlk hw h.2 h.1 dX1_readFirst_12
theorem hy_X2_forgetAll : yX2_forgetAll.cls ≠ "java/lang/invoke/MethodHandle" ∧ yX2_forgetAll.cls ≠ "java/lang/invoke/VarHandle" ∧ (parseMethodDescriptor yX2_forgetAll.desc).map (fun d => d.parameters.length) = some 0 := by decide +kernel
def wp_X2_forgetAll (w : Wd) (Post : Wd → Prop) : Prop :=
  ∀ J7 : Int32 → Wd → Prop, (∀ (x1 : Int32) (w : Wd), ((2 ≤ x1 → (Post w)) ∧ (¬ 2 ≤ x1 → (vp_in x1 2 ∧ (∀ y1 : Int32, y1 = x1 + 1 → (J7 y1 (sA w 14 x1.toNatClampNeg (vp_nar .boolean 0))))))) → J7 x1 w) →
  J7 0 (sI w 11 3 0)
set_option maxHeartbeats 4000000 in
set_option maxRecDepth 100000 in
theorem mt_X2_forgetAll (l : Launch) {E : En} (hI : Inj E) (hF : ∀ o, (o < 15 ∨ 27 ≤ o ∧ o < 157) → o ∈ eL E) (w : Wd) {Post : Wd → Prop} (h : wp_X2_forgetAll w Post) : MV l E yX2_forgetAll cX2_forgetAll 2 none 0 0 [.ref (eA E 11)] w Post := by
  refine MG.intro hI (by decide +kernel) (Nat.le_of_ble_eq_true rfl) ?_
  intro p e s m args below meth c Q C hr hlk hQ hw ls hl
  have hx := C.1
  have hb := C.2.1
  have hl : lv_has ls 2 [(0, .ref (eA E 11))] := hl
  unfold wp_X2_forgetAll at h
  have h := h (fun x1 w => Jp E p l e (Rm 0 0) s m args below meth c Q 2 7 [(0, .ref (eA E 11)), (1, .int x1)] w)
  have h := h ?_
  rotate_left
  · intro x1 w h H locs hw ls hl
    refine lv_iload_n hx hb dX2_forgetAll_7 rfl (lv_at hl 1 rfl) ?_
    refine lv_iconst (v := 2) hx hb dX2_forgetAll_8 (by decide) ?_
    refine lv_icmp_ge (tgt := 25) hx hb dX2_forgetAll_9 (by decide) (fun c1 => ?_) (fun c1 => ?_)
    · have h := h.1 c1
      rw [hQ]
      exact ret_v C hr hlk hw h dX2_forgetAll_25
    · have h := h.2 c1
      refine lv_aload_n hx hb dX2_forgetAll_12 rfl (lv_at hl 0 rfl) ?_
      refine g2_2 C hw (hF 11 (by decide)) K_f_X2_20 dX2_forgetAll_13 ?_
      refine lv_iload_n hx hb dX2_forgetAll_16 rfl (lv_at hl 1 rfl) ?_
      refine lv_iconst (v := 0) hx hb dX2_forgetAll_17 (by decide) ?_
      obtain ⟨hi1, h⟩ := h
      refine r_zast C hw 14 2 (hF 14 (by decide)) (fun _ => rfl) hi1 dX2_forgetAll_18 (fun H locs hw => ?_)
      obtain ⟨y1, ey1⟩ : ∃ y : Int32, y = x1 + 1 := ⟨_, rfl⟩
      have h := h y1 ey1
      refine lv_iinc (v := y1) (lv' := [(1, .int y1), (0, .ref (eA E 11))]) hx hb dX2_forgetAll_19 hl (k := 1) rfl (by rw [ey1]; first | rfl | decide) (by decide) rfl (fun ls hl => ?_)
      refine lv_goto (tgt := 7) hx hb dX2_forgetAll_22 (by decide) ?_
      exact h _ _ hw _ (lv_sub hl [1, 0] rfl)
  refine lv_aload_n hx hb dX2_forgetAll_0 rfl (lv_at hl 0 rfl) ?_
  refine lv_iconst (v := 0) hx hb dX2_forgetAll_1 (by decide) ?_
  refine p2_3 C hw (hF 11 (by decide)) K_f_X2_25 dX2_forgetAll_2 (fun H locs hw => ?_)
  refine lv_iconst (v := 0) hx hb dX2_forgetAll_5 (by decide) ?_
  refine lv_istore_n (lv' := [(1, .int 0), (0, .ref (eA E 11))]) hx hb dX2_forgetAll_6 rfl hl (by decide) rfl (fun ls hl => ?_)
  exact h _ _ hw _ (lv_sub hl [1, 0] rfl)
theorem hy_X7_copyFrom : yX7_copyFrom.cls ≠ "java/lang/invoke/MethodHandle" ∧ yX7_copyFrom.cls ≠ "java/lang/invoke/VarHandle" ∧ (parseMethodDescriptor yX7_copyFrom.desc).map (fun d => d.parameters.length) = some 1 := by decide +kernel
def wp_X7_copyFrom (k : Nat) (k1 : Nat) (w : Wd) (Post : Wd → Prop) : Prop :=
  ∀ y1 : Int32, y1 = gI (cpA (cpA (cpA (cpA (cpA (cpA (cpA w (53 + 8 * k1 + 1) (53 + 8 * k + 1) 0 0 6) (53 + 8 * k1 + 2) (53 + 8 * k + 2) 0 0 6) (53 + 8 * k1 + 3) (53 + 8 * k + 3) 0 0 6) (53 + 8 * k1 + 4) (53 + 8 * k + 4) 0 0 6) (53 + 8 * k1 + 5) (53 + 8 * k + 5) 0 0 6) (53 + 8 * k1 + 6) (53 + 8 * k + 6) 0 0 6) (53 + 8 * k1 + 7) (53 + 8 * k + 7) 0 0 80) (53 + 8 * k1) 7 → (∀ y2 : Int32, y2 = gI (sI (cpA (cpA (cpA (cpA (cpA (cpA (cpA w (53 + 8 * k1 + 1) (53 + 8 * k + 1) 0 0 6) (53 + 8 * k1 + 2) (53 + 8 * k + 2) 0 0 6) (53 + 8 * k1 + 3) (53 + 8 * k + 3) 0 0 6) (53 + 8 * k1 + 4) (53 + 8 * k + 4) 0 0 6) (53 + 8 * k1 + 5) (53 + 8 * k + 5) 0 0 6) (53 + 8 * k1 + 6) (53 + 8 * k + 6) 0 0 6) (53 + 8 * k1 + 7) (53 + 8 * k + 7) 0 0 80) (53 + 8 * k) 7 y1) (53 + 8 * k1) 8 → (wp_X7_ban k (sI (sI (cpA (cpA (cpA (cpA (cpA (cpA (cpA w (53 + 8 * k1 + 1) (53 + 8 * k + 1) 0 0 6) (53 + 8 * k1 + 2) (53 + 8 * k + 2) 0 0 6) (53 + 8 * k1 + 3) (53 + 8 * k + 3) 0 0 6) (53 + 8 * k1 + 4) (53 + 8 * k + 4) 0 0 6) (53 + 8 * k1 + 5) (53 + 8 * k + 5) 0 0 6) (53 + 8 * k1 + 6) (53 + 8 * k + 6) 0 0 6) (53 + 8 * k1 + 7) (53 + 8 * k + 7) 0 0 80) (53 + 8 * k) 7 y1) (53 + 8 * k) 8 y2) (gI (sI (sI (cpA (cpA (cpA (cpA (cpA (cpA (cpA w (53 + 8 * k1 + 1) (53 + 8 * k + 1) 0 0 6) (53 + 8 * k1 + 2) (53 + 8 * k + 2) 0 0 6) (53 + 8 * k1 + 3) (53 + 8 * k + 3) 0 0 6) (53 + 8 * k1 + 4) (53 + 8 * k + 4) 0 0 6) (53 + 8 * k1 + 5) (53 + 8 * k + 5) 0 0 6) (53 + 8 * k1 + 6) (53 + 8 * k + 6) 0 0 6) (53 + 8 * k1 + 7) (53 + 8 * k + 7) 0 0 80) (53 + 8 * k) 7 y1) (53 + 8 * k) 8 y2) (53 + 8 * k1) 9) (gI (sI (sI (cpA (cpA (cpA (cpA (cpA (cpA (cpA w (53 + 8 * k1 + 1) (53 + 8 * k + 1) 0 0 6) (53 + 8 * k1 + 2) (53 + 8 * k + 2) 0 0 6) (53 + 8 * k1 + 3) (53 + 8 * k + 3) 0 0 6) (53 + 8 * k1 + 4) (53 + 8 * k + 4) 0 0 6) (53 + 8 * k1 + 5) (53 + 8 * k + 5) 0 0 6) (53 + 8 * k1 + 6) (53 + 8 * k + 6) 0 0 6) (53 + 8 * k1 + 7) (53 + 8 * k + 7) 0 0 80) (53 + 8 * k) 7 y1) (53 + 8 * k) 8 y2) (53 + 8 * k1) 10) (gI (sI (sI (cpA (cpA (cpA (cpA (cpA (cpA (cpA w (53 + 8 * k1 + 1) (53 + 8 * k + 1) 0 0 6) (53 + 8 * k1 + 2) (53 + 8 * k + 2) 0 0 6) (53 + 8 * k1 + 3) (53 + 8 * k + 3) 0 0 6) (53 + 8 * k1 + 4) (53 + 8 * k + 4) 0 0 6) (53 + 8 * k1 + 5) (53 + 8 * k + 5) 0 0 6) (53 + 8 * k1 + 6) (53 + 8 * k + 6) 0 0 6) (53 + 8 * k1 + 7) (53 + 8 * k + 7) 0 0 80) (53 + 8 * k) 7 y1) (53 + 8 * k) 8 y2) (53 + 8 * k1) 11) (fun w1 => Post w1)))
set_option maxHeartbeats 4000000 in
set_option maxRecDepth 100000 in
theorem mt_X7_copyFrom (l : Launch) {E : En} (hI : Inj E) (hF : ∀ o, (o < 15 ∨ 27 ≤ o ∧ o < 157) → o ∈ eL E) (k : Nat) (hk : k < 13) (k1 : Nat) (hk1 : k1 < 13) (w : Wd) {Post : Wd → Prop} (h : wp_X7_copyFrom k k1 w Post) : MV l E yX7_copyFrom cX7_copyFrom 2 none 1 23 [.ref (eA E ((53 + 8 * k))), .ref (eA E ((53 + 8 * k1)))] w Post := by
  refine MG.intro hI (by decide +kernel) (Nat.le_of_ble_eq_true rfl) ?_
  intro p e s m args below meth c Q C hr hlk hQ hw ls hl
  have hx := C.1
  have hb := C.2.1
  have hl : lv_has ls 2 [(0, .ref (eA E ((53 + 8 * k)))), (1, .ref (eA E ((53 + 8 * k1))))] := hl
  unfold wp_X7_copyFrom at h
  refine lv_aload_n hx hb dX7_copyFrom_0 rfl (lv_at hl 1 rfl) ?_
  refine g7_0 C hw k1 hk1 (hF _ (by have := hk1; omega)) K_f_X7_9 dX7_copyFrom_1 ?_
  refine lv_iconst (v := 0) hx hb dX7_copyFrom_4 (by decide) ?_
  refine lv_aload_n hx hb dX7_copyFrom_5 rfl (lv_at hl 0 rfl) ?_
  refine g7_0 C hw k hk (hF _ (by have := hk; omega)) K_f_X7_9 dX7_copyFrom_6 ?_
  refine lv_iconst (v := 0) hx hb dX7_copyFrom_9 (by decide) ?_
  refine lv_bipush (v := 6) hx hb dX7_copyFrom_10 (by decide) ?_
  refine r_copy C hw hl.1 (53 + 8 * k1 + 1) (53 + 8 * k + 1) 6 6 K_m_X7_46 (hF _ (by have := hk1; omega)) (hF _ (by have := hk; omega)) (ce_sta 1 hk1 (by decide) (by decide)) (fun _ => ce_sta 1 hk (by decide) (by decide)) (by decide) (by decide) (by decide) (by decide) (by decide) ⟨Nat.le_of_ble_eq_true rfl, Nat.le_of_ble_eq_true rfl⟩ dX7_copyFrom_12 (fun H locs hw => ?_)
  refine lv_aload_n hx hb dX7_copyFrom_15 rfl (lv_at hl 1 rfl) ?_
  refine g7_1 C hw k1 hk1 (hF _ (by have := hk1; omega)) K_f_X7_15 dX7_copyFrom_16 ?_
  refine lv_iconst (v := 0) hx hb dX7_copyFrom_19 (by decide) ?_
  refine lv_aload_n hx hb dX7_copyFrom_20 rfl (lv_at hl 0 rfl) ?_
  refine g7_1 C hw k hk (hF _ (by have := hk; omega)) K_f_X7_15 dX7_copyFrom_21 ?_
  refine lv_iconst (v := 0) hx hb dX7_copyFrom_24 (by decide) ?_
  refine lv_bipush (v := 6) hx hb dX7_copyFrom_25 (by decide) ?_
  refine r_copy C hw hl.1 (53 + 8 * k1 + 2) (53 + 8 * k + 2) 6 6 K_m_X7_46 (hF _ (by have := hk1; omega)) (hF _ (by have := hk; omega)) (ce_sta 2 hk1 (by decide) (by decide)) (fun _ => ce_sta 2 hk (by decide) (by decide)) (by decide) (by decide) (by decide) (by decide) (by decide) ⟨Nat.le_of_ble_eq_true rfl, Nat.le_of_ble_eq_true rfl⟩ dX7_copyFrom_27 (fun H locs hw => ?_)
  refine lv_aload_n hx hb dX7_copyFrom_30 rfl (lv_at hl 1 rfl) ?_
  refine g7_2 C hw k1 hk1 (hF _ (by have := hk1; omega)) K_f_X7_18 dX7_copyFrom_31 ?_
  refine lv_iconst (v := 0) hx hb dX7_copyFrom_34 (by decide) ?_
  refine lv_aload_n hx hb dX7_copyFrom_35 rfl (lv_at hl 0 rfl) ?_
  refine g7_2 C hw k hk (hF _ (by have := hk; omega)) K_f_X7_18 dX7_copyFrom_36 ?_
  refine lv_iconst (v := 0) hx hb dX7_copyFrom_39 (by decide) ?_
  refine lv_bipush (v := 6) hx hb dX7_copyFrom_40 (by decide) ?_
  refine r_copy C hw hl.1 (53 + 8 * k1 + 3) (53 + 8 * k + 3) 6 6 K_m_X7_46 (hF _ (by have := hk1; omega)) (hF _ (by have := hk; omega)) (ce_sta 3 hk1 (by decide) (by decide)) (fun _ => ce_sta 3 hk (by decide) (by decide)) (by decide) (by decide) (by decide) (by decide) (by decide) ⟨Nat.le_of_ble_eq_true rfl, Nat.le_of_ble_eq_true rfl⟩ dX7_copyFrom_42 (fun H locs hw => ?_)
  refine lv_aload_n hx hb dX7_copyFrom_45 rfl (lv_at hl 1 rfl) ?_
  refine g7_3 C hw k1 hk1 (hF _ (by have := hk1; omega)) K_f_X7_21 dX7_copyFrom_46 ?_
  refine lv_iconst (v := 0) hx hb dX7_copyFrom_49 (by decide) ?_
  refine lv_aload_n hx hb dX7_copyFrom_50 rfl (lv_at hl 0 rfl) ?_
  refine g7_3 C hw k hk (hF _ (by have := hk; omega)) K_f_X7_21 dX7_copyFrom_51 ?_
  refine lv_iconst (v := 0) hx hb dX7_copyFrom_54 (by decide) ?_
  refine lv_bipush (v := 6) hx hb dX7_copyFrom_55 (by decide) ?_
  refine r_copy C hw hl.1 (53 + 8 * k1 + 4) (53 + 8 * k + 4) 6 6 K_m_X7_46 (hF _ (by have := hk1; omega)) (hF _ (by have := hk; omega)) (ce_sta 4 hk1 (by decide) (by decide)) (fun _ => ce_sta 4 hk (by decide) (by decide)) (by decide) (by decide) (by decide) (by decide) (by decide) ⟨Nat.le_of_ble_eq_true rfl, Nat.le_of_ble_eq_true rfl⟩ dX7_copyFrom_57 (fun H locs hw => ?_)
  refine lv_aload_n hx hb dX7_copyFrom_60 rfl (lv_at hl 1 rfl) ?_
  refine g7_4 C hw k1 hk1 (hF _ (by have := hk1; omega)) K_f_X7_24 dX7_copyFrom_61 ?_
  refine lv_iconst (v := 0) hx hb dX7_copyFrom_64 (by decide) ?_
  refine lv_aload_n hx hb dX7_copyFrom_65 rfl (lv_at hl 0 rfl) ?_
  refine g7_4 C hw k hk (hF _ (by have := hk; omega)) K_f_X7_24 dX7_copyFrom_66 ?_
  refine lv_iconst (v := 0) hx hb dX7_copyFrom_69 (by decide) ?_
  refine lv_bipush (v := 6) hx hb dX7_copyFrom_70 (by decide) ?_
  refine r_copy C hw hl.1 (53 + 8 * k1 + 5) (53 + 8 * k + 5) 6 6 K_m_X7_46 (hF _ (by have := hk1; omega)) (hF _ (by have := hk; omega)) (ce_sta 5 hk1 (by decide) (by decide)) (fun _ => ce_sta 5 hk (by decide) (by decide)) (by decide) (by decide) (by decide) (by decide) (by decide) ⟨Nat.le_of_ble_eq_true rfl, Nat.le_of_ble_eq_true rfl⟩ dX7_copyFrom_72 (fun H locs hw => ?_)
  refine lv_aload_n hx hb dX7_copyFrom_75 rfl (lv_at hl 1 rfl) ?_
  refine g7_5 C hw k1 hk1 (hF _ (by have := hk1; omega)) K_f_X7_27 dX7_copyFrom_76 ?_
  refine lv_iconst (v := 0) hx hb dX7_copyFrom_79 (by decide) ?_
  refine lv_aload_n hx hb dX7_copyFrom_80 rfl (lv_at hl 0 rfl) ?_
  refine g7_5 C hw k hk (hF _ (by have := hk; omega)) K_f_X7_27 dX7_copyFrom_81 ?_
  refine lv_iconst (v := 0) hx hb dX7_copyFrom_84 (by decide) ?_
  refine lv_bipush (v := 6) hx hb dX7_copyFrom_85 (by decide) ?_
  refine r_copy C hw hl.1 (53 + 8 * k1 + 6) (53 + 8 * k + 6) 6 6 K_m_X7_46 (hF _ (by have := hk1; omega)) (hF _ (by have := hk; omega)) (ce_sta 6 hk1 (by decide) (by decide)) (fun _ => ce_sta 6 hk (by decide) (by decide)) (by decide) (by decide) (by decide) (by decide) (by decide) ⟨Nat.le_of_ble_eq_true rfl, Nat.le_of_ble_eq_true rfl⟩ dX7_copyFrom_87 (fun H locs hw => ?_)
  refine lv_aload_n hx hb dX7_copyFrom_90 rfl (lv_at hl 1 rfl) ?_
  refine g7_6 C hw k1 hk1 (hF _ (by have := hk1; omega)) K_f_X7_30 dX7_copyFrom_91 ?_
  refine lv_iconst (v := 0) hx hb dX7_copyFrom_94 (by decide) ?_
  refine lv_aload_n hx hb dX7_copyFrom_95 rfl (lv_at hl 0 rfl) ?_
  refine g7_6 C hw k hk (hF _ (by have := hk; omega)) K_f_X7_30 dX7_copyFrom_96 ?_
  refine lv_iconst (v := 0) hx hb dX7_copyFrom_99 (by decide) ?_
  refine lv_bipush (v := 80) hx hb dX7_copyFrom_100 (by decide) ?_
  refine r_copy C hw hl.1 (53 + 8 * k1 + 7) (53 + 8 * k + 7) 80 80 K_m_X7_46 (hF _ (by have := hk1; omega)) (hF _ (by have := hk; omega)) (ce_sta 7 hk1 (by decide) (by decide)) (fun _ => ce_sta 7 hk (by decide) (by decide)) (by decide) (by decide) (by decide) (by decide) (by decide) ⟨Nat.le_of_ble_eq_true rfl, Nat.le_of_ble_eq_true rfl⟩ dX7_copyFrom_102 (fun H locs hw => ?_)
  refine lv_aload_n hx hb dX7_copyFrom_105 rfl (lv_at hl 0 rfl) ?_
  refine lv_aload_n hx hb dX7_copyFrom_106 rfl (lv_at hl 1 rfl) ?_
  refine g7_7 C hw k1 hk1 (hF _ (by have := hk1; omega)) K_f_X7_58 dX7_copyFrom_107 ?_
  refine lv_topi (fun y1 ey1 => ?_)
  have h := h y1 ey1
  refine p7_7 C hw k hk (hF _ (by have := hk; omega)) K_f_X7_58 dX7_copyFrom_110 (fun H locs hw => ?_)
  refine lv_aload_n hx hb dX7_copyFrom_113 rfl (lv_at hl 0 rfl) ?_
  refine lv_aload_n hx hb dX7_copyFrom_114 rfl (lv_at hl 1 rfl) ?_
  refine g7_8 C hw k1 hk1 (hF _ (by have := hk1; omega)) K_f_X7_61 dX7_copyFrom_115 ?_
  refine lv_topi (fun y2 ey2 => ?_)
  have h := h y2 ey2
  refine p7_8 C hw k hk (hF _ (by have := hk; omega)) K_f_X7_61 dX7_copyFrom_118 (fun H locs hw => ?_)
  refine lv_aload_n hx hb dX7_copyFrom_121 rfl (lv_at hl 0 rfl) ?_
  refine lv_aload_n hx hb dX7_copyFrom_122 rfl (lv_at hl 1 rfl) ?_
  refine g7_9 C hw k1 hk1 (hF _ (by have := hk1; omega)) K_f_X7_64 dX7_copyFrom_123 ?_
  refine lv_aload_n hx hb dX7_copyFrom_126 rfl (lv_at hl 1 rfl) ?_
  refine g7_10 C hw k1 hk1 (hF _ (by have := hk1; omega)) K_f_X7_67 dX7_copyFrom_127 ?_
  refine lv_aload_n hx hb dX7_copyFrom_130 rfl (lv_at hl 1 rfl) ?_
  refine g7_11 C hw k1 hk1 (hF _ (by have := hk1; omega)) K_f_X7_70 dX7_copyFrom_131 ?_
  refine done_v hw (my_runV (As := [.int (gI (sI (sI (cpA (cpA (cpA (cpA (cpA (cpA (cpA w (53 + 8 * k1 + 1) (53 + 8 * k + 1) 0 0 6) (53 + 8 * k1 + 2) (53 + 8 * k + 2) 0 0 6) (53 + 8 * k1 + 3) (53 + 8 * k + 3) 0 0 6) (53 + 8 * k1 + 4) (53 + 8 * k + 4) 0 0 6) (53 + 8 * k1 + 5) (53 + 8 * k + 5) 0 0 6) (53 + 8 * k1 + 6) (53 + 8 * k + 6) 0 0 6) (53 + 8 * k1 + 7) (53 + 8 * k + 7) 0 0 80) (53 + 8 * k) 7 y1) (53 + 8 * k) 8 y2) (53 + 8 * k1) 9), .int (gI (sI (sI (cpA (cpA (cpA (cpA (cpA (cpA (cpA w (53 + 8 * k1 + 1) (53 + 8 * k + 1) 0 0 6) (53 + 8 * k1 + 2) (53 + 8 * k + 2) 0 0 6) (53 + 8 * k1 + 3) (53 + 8 * k + 3) 0 0 6) (53 + 8 * k1 + 4) (53 + 8 * k + 4) 0 0 6) (53 + 8 * k1 + 5) (53 + 8 * k + 5) 0 0 6) (53 + 8 * k1 + 6) (53 + 8 * k + 6) 0 0 6) (53 + 8 * k1 + 7) (53 + 8 * k + 7) 0 0 80) (53 + 8 * k) 7 y1) (53 + 8 * k) 8 y2) (53 + 8 * k1) 10), .int (gI (sI (sI (cpA (cpA (cpA (cpA (cpA (cpA (cpA w (53 + 8 * k1 + 1) (53 + 8 * k + 1) 0 0 6) (53 + 8 * k1 + 2) (53 + 8 * k + 2) 0 0 6) (53 + 8 * k1 + 3) (53 + 8 * k + 3) 0 0 6) (53 + 8 * k1 + 4) (53 + 8 * k + 4) 0 0 6) (53 + 8 * k1 + 5) (53 + 8 * k + 5) 0 0 6) (53 + 8 * k1 + 6) (53 + 8 * k + 6) 0 0 6) (53 + 8 * k1 + 7) (53 + 8 * k + 7) 0 0 80) (53 + 8 * k) 7 y1) (53 + 8 * k) 8 y2) (53 + 8 * k1) 11)]) (rest := []) C hw (53 + 8 * k) 7 (hF _ (by have := hk; omega)) (ce_st hk) rfl (mt_X7_ban l C.2.2.2.2.2.2.2 k hk (fun o a => hF o (by have := hk; omega)) _ _ _ _ h) K_m_X7_39 K_i_X7_ban K_v_X7_ban K_n_X7 K_c_X7_ban hy_X7_ban ⟨Nat.le_of_ble_eq_true rfl, Nat.le_of_ble_eq_true rfl⟩ hl.1 rfl (Nat.le_of_ble_eq_true rfl) dX7_copyFrom_134 ⟨Nat.zero_le _, Nat.zero_le _⟩) (fun w1 H locs h hw => ?_)
  rw [hQ]
  exact ret_v C hr hlk hw h dX7_copyFrom_137
theorem hy_X2_keep : yX2_keep.cls ≠ "java/lang/invoke/MethodHandle" ∧ yX2_keep.cls ≠ "java/lang/invoke/VarHandle" ∧ (parseMethodDescriptor yX2_keep.desc).map (fun d => d.parameters.length) = some 1 := by decide +kernel
def wp_X2_keep (k1 : Nat) (w : Wd) (Post : Wd → Prop) : Prop :=
  vp_in (gI w 11 4) 10 ∧ (wp_X7_copyFrom ((gI w 11 4).toNatClampNeg + 1) k1 w (fun w1 => ∀ y1 : Int32, y1 = ((gI w1 11 4) + 1) - ((gI w1 11 4) + 1) / 10 * 10 → (∀ y2 : Int32, y2 = (if 10 < ((gI (sI w1 11 4 y1) 11 3) + 1) then 10 else ((gI (sI w1 11 4 y1) 11 3) + 1)) → (Post (sI (sI w1 11 4 y1) 11 3 y2)))))
set_option maxHeartbeats 4000000 in
set_option maxRecDepth 100000 in
theorem mt_X2_keep (l : Launch) {E : En} (hI : Inj E) (hF : ∀ o, (o < 15 ∨ 27 ≤ o ∧ o < 157) → o ∈ eL E) (k1 : Nat) (hk1 : k1 < 13) (w : Wd) {Post : Wd → Prop} (h : wp_X2_keep k1 w Post) : MV l E yX2_keep cX2_keep 2 none 2 44 [.ref (eA E 11), .ref (eA E ((53 + 8 * k1)))] w Post := by
  refine MG.intro hI (by decide +kernel) (Nat.le_of_ble_eq_true rfl) ?_
  intro p e s m args below meth c Q C hr hlk hQ hw ls hl
  have hx := C.1
  have hb := C.2.1
  have hl : lv_has ls 2 [(0, .ref (eA E 11)), (1, .ref (eA E ((53 + 8 * k1))))] := hl
  unfold wp_X2_keep at h
  refine lv_aload_n hx hb dX2_keep_0 rfl (lv_at hl 0 rfl) ?_
  refine g2_0 C hw (hF 11 (by decide)) K_f_X2_11 dX2_keep_1 ?_
  refine lv_aload_n hx hb dX2_keep_4 rfl (lv_at hl 0 rfl) ?_
  refine g2_4 C hw (hF 11 (by decide)) K_f_X2_29 dX2_keep_5 ?_
  obtain ⟨hi1, h⟩ := h
  refine r_aald C hw 12 6 10 (hF 12 (by decide)) rfl rfl hi1 rfl dX2_keep_8 ?_
  have hkr1 : (gI w 11 4).toNatClampNeg + 1 < 13 := by have := vp_lt hi1; omega
  refine lv_aload_n hx hb dX2_keep_9 rfl (lv_at hl 1 rfl) ?_
  refine done_v hw (my_runV (As := [.ref (eA E ((53 + 8 * k1)))]) (rest := []) C hw (53 + 8 * ((gI w 11 4).toNatClampNeg + 1)) 7 (hF _ (by have := hkr1; omega)) (ce_st hkr1) rfl (mt_X7_copyFrom l C.2.2.2.2.2.2.2 hF ((gI w 11 4).toNatClampNeg + 1) hkr1 k1 hk1 _ h) K_m_X2_32 K_i_X7_copyFrom K_v_X7_copyFrom K_n_X7 K_c_X7_copyFrom hy_X7_copyFrom ⟨Nat.le_of_ble_eq_true rfl, Nat.le_of_ble_eq_true rfl⟩ hl.1 rfl (Nat.le_of_ble_eq_true rfl) dX2_keep_10 ⟨Nat.zero_le _, Nat.zero_le _⟩) (fun w1 H locs h hw => ?_)
  refine lv_aload_n hx hb dX2_keep_13 rfl (lv_at hl 0 rfl) ?_
  refine lv_aload_n hx hb dX2_keep_14 rfl (lv_at hl 0 rfl) ?_
  refine g2_4 C hw (hF 11 (by decide)) K_f_X2_29 dX2_keep_15 ?_
  refine lv_iconst (v := 1) hx hb dX2_keep_18 (by decide) ?_
  refine lv_iadd hx hb dX2_keep_19 ?_
  refine lv_bipush (v := 10) hx hb dX2_keep_20 (by decide) ?_
  refine lv_irem hx hb dX2_keep_22 (by decide) ?_
  refine lv_topi (fun y1 ey1 => ?_)
  have h := h y1 ey1
  refine p2_4 C hw (hF 11 (by decide)) K_f_X2_29 dX2_keep_23 (fun H locs hw => ?_)
  refine lv_aload_n hx hb dX2_keep_26 rfl (lv_at hl 0 rfl) ?_
  refine lv_aload_n hx hb dX2_keep_27 rfl (lv_at hl 0 rfl) ?_
  refine g2_3 C hw (hF 11 (by decide)) K_f_X2_25 dX2_keep_28 ?_
  refine lv_iconst (v := 1) hx hb dX2_keep_31 (by decide) ?_
  refine lv_iadd hx hb dX2_keep_32 ?_
  refine lv_bipush (v := 10) hx hb dX2_keep_33 (by decide) ?_
  refine r_min C hl.1 K_m_X2_36 ⟨Nat.le_of_ble_eq_true rfl, Nat.le_of_ble_eq_true rfl⟩ ⟨Nat.zero_le _, Nat.zero_le _⟩ dX2_keep_35 ?_
  refine lv_topi (fun y2 ey2 => ?_)
  have h := h y2 ey2
  refine p2_3 C hw (hF 11 (by decide)) K_f_X2_25 dX2_keep_38 (fun H locs hw => ?_)
  rw [hQ]
  exact ret_v C hr hlk hw h dX2_keep_41
theorem hy_X2_goBack : yX2_goBack.cls ≠ "java/lang/invoke/MethodHandle" ∧ yX2_goBack.cls ≠ "java/lang/invoke/VarHandle" ∧ (parseMethodDescriptor yX2_goBack.desc).map (fun d => d.parameters.length) = some 1 := by decide +kernel
def wp_X2_goBack (k1 : Nat) (w : Wd) (Post : Int32 → Wd → Prop) : Prop :=
  ((gI w 11 3) = 0 → (Post ((-1)) w)) ∧ (¬ (gI w 11 3) = 0 → (∀ y1 : Int32, y1 = (((gI w 11 4) + 10) - 1) - (((gI w 11 4) + 10) - 1) / 10 * 10 → (vp_in (gI (sI w 11 4 y1) 11 4) 10 ∧ (wp_X7_copyFrom k1 ((gI (sI w 11 4 y1) 11 4).toNatClampNeg + 1) (sI w 11 4 y1) (fun w1 => ∀ y2 : Int32, y2 = (gI w1 11 3) - 1 → (Post (gI (sI w1 11 3 y2) 11 3) (sI w1 11 3 y2)))))))
set_option maxHeartbeats 4000000 in
set_option maxRecDepth 100000 in
theorem mt_X2_goBack (l : Launch) {E : En} (hI : Inj E) (hF : ∀ o, (o < 15 ∨ 27 ≤ o ∧ o < 157) → o ∈ eL E) (k1 : Nat) (hk1 : k1 < 13) (w : Wd) {Post : Int32 → Wd → Prop} (h : wp_X2_goBack k1 w Post) : MI l E yX2_goBack cX2_goBack 2 (some .int) 2 44 [.ref (eA E 11), .ref (eA E ((53 + 8 * k1)))] w Post := by
  refine MG.intro hI (by decide +kernel) (Nat.le_of_ble_eq_true rfl) ?_
  intro p e s m args below meth c Q C hr hlk hQ hw ls hl
  have hx := C.1
  have hb := C.2.1
  have hl : lv_has ls 2 [(0, .ref (eA E 11)), (1, .ref (eA E ((53 + 8 * k1))))] := hl
  unfold wp_X2_goBack at h
  refine lv_aload_n hx hb dX2_goBack_0 rfl (lv_at hl 0 rfl) ?_
  refine g2_3 C hw (hF 11 (by decide)) K_f_X2_25 dX2_goBack_1 ?_
  refine lv_if_ne (tgt := 9) hx hb dX2_goBack_4 (by decide) (fun c1 => ?_) (fun c1 => ?_)
  · have h := h.2 c1
    refine lv_aload_n hx hb dX2_goBack_9 rfl (lv_at hl 0 rfl) ?_
    refine lv_aload_n hx hb dX2_goBack_10 rfl (lv_at hl 0 rfl) ?_
    refine g2_4 C hw (hF 11 (by decide)) K_f_X2_29 dX2_goBack_11 ?_
    refine lv_bipush (v := 10) hx hb dX2_goBack_14 (by decide) ?_
    refine lv_iadd hx hb dX2_goBack_16 ?_
    refine lv_iconst (v := 1) hx hb dX2_goBack_17 (by decide) ?_
    refine lv_isub hx hb dX2_goBack_18 ?_
    refine lv_bipush (v := 10) hx hb dX2_goBack_19 (by decide) ?_
    refine lv_irem hx hb dX2_goBack_21 (by decide) ?_
    refine lv_topi (fun y1 ey1 => ?_)
    have h := h y1 ey1
    refine p2_4 C hw (hF 11 (by decide)) K_f_X2_29 dX2_goBack_22 (fun H locs hw => ?_)
    refine lv_aload_n hx hb dX2_goBack_25 rfl (lv_at hl 1 rfl) ?_
    refine lv_aload_n hx hb dX2_goBack_26 rfl (lv_at hl 0 rfl) ?_
    refine g2_0 C hw (hF 11 (by decide)) K_f_X2_11 dX2_goBack_27 ?_
    refine lv_aload_n hx hb dX2_goBack_30 rfl (lv_at hl 0 rfl) ?_
    refine g2_4 C hw (hF 11 (by decide)) K_f_X2_29 dX2_goBack_31 ?_
    obtain ⟨hi1, h⟩ := h
    refine r_aald C hw 12 6 10 (hF 12 (by decide)) rfl rfl hi1 rfl dX2_goBack_34 ?_
    have hkr1 : (gI (sI w 11 4 y1) 11 4).toNatClampNeg + 1 < 13 := by have := vp_lt hi1; omega
    refine done_v hw (my_runV (As := [.ref (eA E ((53 + 8 * ((gI (sI w 11 4 y1) 11 4).toNatClampNeg + 1))))]) (rest := []) C hw (53 + 8 * k1) 7 (hF _ (by have := hk1; omega)) (ce_st hk1) rfl (mt_X7_copyFrom l C.2.2.2.2.2.2.2 hF k1 hk1 ((gI (sI w 11 4 y1) 11 4).toNatClampNeg + 1) hkr1 _ h) K_m_X2_32 K_i_X7_copyFrom K_v_X7_copyFrom K_n_X7 K_c_X7_copyFrom hy_X7_copyFrom ⟨Nat.le_of_ble_eq_true rfl, Nat.le_of_ble_eq_true rfl⟩ hl.1 rfl (Nat.le_of_ble_eq_true rfl) dX2_goBack_35 ⟨Nat.zero_le _, Nat.zero_le _⟩) (fun w1 H locs h hw => ?_)
    refine lv_aload_n hx hb dX2_goBack_38 rfl (lv_at hl 0 rfl) ?_
    refine lv_dup hx hb dX2_goBack_39 rfl ?_
    refine g2_3 C hw (hF 11 (by decide)) K_f_X2_25 dX2_goBack_40 ?_
    refine lv_iconst (v := 1) hx hb dX2_goBack_43 (by decide) ?_
    refine lv_isub hx hb dX2_goBack_44 ?_
    refine lv_topi (fun y2 ey2 => ?_)
    have h := h y2 ey2
    refine p2_3 C hw (hF 11 (by decide)) K_f_X2_25 dX2_goBack_45 (fun H locs hw => ?_)
    refine lv_aload_n hx hb dX2_goBack_48 rfl (lv_at hl 0 rfl) ?_
    refine g2_3 C hw (hF 11 (by decide)) K_f_X2_25 dX2_goBack_49 ?_
    rw [hQ]
    exact ret_i C hr hlk hw h dX2_goBack_52
  · have h := h.1 c1
    refine lv_iconst (v := (-1)) hx hb dX2_goBack_7 (by decide) ?_
    rw [hQ]
    exact ret_i C hr hlk hw h dX2_goBack_8
theorem hy_X5_farthest : yX5_farthest.cls ≠ "java/lang/invoke/MethodHandle" ∧ yX5_farthest.cls ≠ "java/lang/invoke/VarHandle" ∧ (parseMethodDescriptor yX5_farthest.desc).map (fun d => d.parameters.length) = some 0 := by decide +kernel
def wp_X5_farthest (w : Wd) (Post : Int32 → Wd → Prop) : Prop :=
  ∀ J4 : Int32 → Int32 → Wd → Prop, (∀ (x1 : Int32) (x2 : Int32) (w : Wd), ((299 ≤ x2 → (Post (x1 - 1) w)) ∧ (¬ 299 ≤ x2 → (vp_in x2 299 ∧ (∀ y1 : Int32, y1 = (if x1 < (gA w 9 x2.toNatClampNeg) then (gA w 9 x2.toNatClampNeg) else x1) → (∀ y2 : Int32, y2 = x2 + 1 → (J4 y1 y2 w)))))) → J4 x1 x2 w) →
  J4 1 0 w
set_option maxHeartbeats 4000000 in
set_option maxRecDepth 100000 in
theorem mt_X5_farthest (l : Launch) {E : En} (hI : Inj E) (hF : ∀ o, (o < 15 ∨ 27 ≤ o ∧ o < 157) → o ∈ eL E) (w : Wd) {Post : Int32 → Wd → Prop} (h : wp_X5_farthest w Post) : MI l E yX5_farthest cX5_farthest 3 (some .int) 1 13 [.ref (eA E 8)] w Post := by
  refine MG.intro hI (by decide +kernel) (Nat.le_of_ble_eq_true rfl) ?_
  intro p e s m args below meth c Q C hr hlk hQ hw ls hl
  have hx := C.1
  have hb := C.2.1
  have hl : lv_has ls 3 [(0, .ref (eA E 8))] := hl
  unfold wp_X5_farthest at h
  have h := h (fun x1 x2 w => Jp E p l e (Rm 1 13) s m args below meth c Q 3 4 [(0, .ref (eA E 8)), (1, .int x1), (2, .int x2)] w)
  have h := h ?_
  rotate_left
  · intro x1 x2 w h H locs hw ls hl
    refine lv_iload_n hx hb dX5_farthest_4 rfl (lv_at hl 2 rfl) ?_
    refine lv_sipush (v := 299) hx hb dX5_farthest_5 (by decide) ?_
    refine lv_icmp_ge (tgt := 28) hx hb dX5_farthest_8 (by decide) (fun c1 => ?_) (fun c1 => ?_)
    · have h := h.1 c1
      refine lv_iload_n hx hb dX5_farthest_28 rfl (lv_at hl 1 rfl) ?_
      refine lv_iconst (v := 1) hx hb dX5_farthest_29 (by decide) ?_
      refine lv_isub hx hb dX5_farthest_30 ?_
      rw [hQ]
      exact ret_i C hr hlk hw h dX5_farthest_31
    · have h := h.2 c1
      refine lv_iload_n hx hb dX5_farthest_11 rfl (lv_at hl 1 rfl) ?_
      refine lv_aload_n hx hb dX5_farthest_12 rfl (lv_at hl 0 rfl) ?_
      refine g5_0 C hw (hF 8 (by decide)) K_f_X5_9 dX5_farthest_13 ?_
      refine lv_iload_n hx hb dX5_farthest_16 rfl (lv_at hl 2 rfl) ?_
      obtain ⟨hi1, h⟩ := h
      refine r_iald C hw 9 299 (hF 9 (by decide)) rfl hi1 dX5_farthest_17 ?_
      refine r_max C hl.1 K_m_X5_37 ⟨Nat.le_of_ble_eq_true rfl, Nat.le_of_ble_eq_true rfl⟩ ⟨Nat.zero_le _, Nat.zero_le _⟩ dX5_farthest_18 ?_
      refine lv_topi (fun y1 ey1 => ?_)
      have h := h y1 ey1
      refine lv_istore_n (lv' := [(1, .int y1), (0, .ref (eA E 8)), (2, .int x2)]) hx hb dX5_farthest_21 rfl hl (by decide) rfl (fun ls hl => ?_)
      obtain ⟨y2, ey2⟩ : ∃ y : Int32, y = x2 + 1 := ⟨_, rfl⟩
      have h := h y2 ey2
      refine lv_iinc (v := y2) (lv' := [(2, .int y2), (1, .int y1), (0, .ref (eA E 8))]) hx hb dX5_farthest_22 hl (k := 2) rfl (by rw [ey2]; first | rfl | decide) (by decide) rfl (fun ls hl => ?_)
      refine lv_goto (tgt := 4) hx hb dX5_farthest_25 (by decide) ?_
      exact h _ _ hw _ (lv_sub hl [2, 1, 0] rfl)
  refine lv_iconst (v := 1) hx hb dX5_farthest_0 (by decide) ?_
  refine lv_istore_n (lv' := [(1, .int 1), (0, .ref (eA E 8))]) hx hb dX5_farthest_1 rfl hl (by decide) rfl (fun ls hl => ?_)
  refine lv_iconst (v := 0) hx hb dX5_farthest_2 (by decide) ?_
  refine lv_istore_n (lv' := [(2, .int 0), (1, .int 1), (0, .ref (eA E 8))]) hx hb dX5_farthest_3 rfl hl (by decide) rfl (fun ls hl => ?_)
  exact h _ _ hw _ (lv_sub hl [2, 1, 0] rfl)
theorem hy_X5_countPositions : yX5_countPositions.cls ≠ "java/lang/invoke/MethodHandle" ∧ yX5_countPositions.cls ≠ "java/lang/invoke/VarHandle" ∧ (parseMethodDescriptor yX5_countPositions.desc).map (fun d => d.parameters.length) = some 0 := by decide +kernel
def wp_X5_countPositions (w : Wd) (Post : Int32 → Wd → Prop) : Prop :=
  ∀ J4 : Int32 → Int32 → Wd → Prop, (∀ (x1 : Int32) (x2 : Int32) (w : Wd), ((299 ≤ x2 → (Post x1 w)) ∧ (¬ 299 ≤ x2 → (wp_X5_hasReached w x2 (fun r1 w1 => (r1 = 0 → (∀ y1 : Int32, y1 = x1 + 0 → (∀ y2 : Int32, y2 = x2 + 1 → (J4 y1 y2 w1)))) ∧ (¬ r1 = 0 → (∀ y3 : Int32, y3 = x1 + 1 → (∀ y4 : Int32, y4 = x2 + 1 → (J4 y3 y4 w1)))))))) → J4 x1 x2 w) →
  J4 0 0 w
set_option maxHeartbeats 4000000 in
set_option maxRecDepth 100000 in
theorem mt_X5_countPositions (l : Launch) {E : En} (hI : Inj E) (hF : ∀ o, (o < 15 ∨ 27 ≤ o ∧ o < 157) → o ∈ eL E) (w : Wd) {Post : Int32 → Wd → Prop} (h : wp_X5_countPositions w Post) : MI l E yX5_countPositions cX5_countPositions 3 (some .int) 1 21 [.ref (eA E 8)] w Post := by
  refine MG.intro hI (by decide +kernel) (Nat.le_of_ble_eq_true rfl) ?_
  intro p e s m args below meth c Q C hr hlk hQ hw ls hl
  have hx := C.1
  have hb := C.2.1
  have hl : lv_has ls 3 [(0, .ref (eA E 8))] := hl
  unfold wp_X5_countPositions at h
  have h := h (fun x1 x2 w => Jp E p l e (Rm 1 21) s m args below meth c Q 3 4 [(0, .ref (eA E 8)), (1, .int x1), (2, .int x2)] w)
  have h := h ?_
  rotate_left
  · intro x1 x2 w h H locs hw ls hl
    refine lv_iload_n hx hb dX5_countPositions_4 rfl (lv_at hl 2 rfl) ?_
    refine lv_sipush (v := 299) hx hb dX5_countPositions_5 (by decide) ?_
    refine lv_icmp_ge (tgt := 33) hx hb dX5_countPositions_8 (by decide) (fun c1 => ?_) (fun c1 => ?_)
    · have h := h.1 c1
      refine lv_iload_n hx hb dX5_countPositions_33 rfl (lv_at hl 1 rfl) ?_
      rw [hQ]
      exact ret_i C hr hlk hw h dX5_countPositions_34
    · have h := h.2 c1
      refine lv_iload_n hx hb dX5_countPositions_11 rfl (lv_at hl 1 rfl) ?_
      refine lv_aload_n hx hb dX5_countPositions_12 rfl (lv_at hl 0 rfl) ?_
      refine lv_iload_n hx hb dX5_countPositions_13 rfl (lv_at hl 2 rfl) ?_
      refine done_i hw (my_runV (As := [.int x2]) (rest := [.int x1]) C hw 8 5 (hF 8 (by decide)) rfl rfl (mt_X5_hasReached l C.2.2.2.2.2.2.2 hF _ _ h) K_m_X5_43 K_i_X5_hasReached K_v_X5_hasReached K_n_X5 K_c_X5_hasReached hy_X5_hasReached ⟨Nat.le_of_ble_eq_true rfl, Nat.le_of_ble_eq_true rfl⟩ hl.1 rfl (Nat.le_of_ble_eq_true rfl) dX5_countPositions_14 ⟨Nat.zero_le _, Nat.zero_le _⟩) (fun r1 w1 H locs h hw => ?_)
      refine lv_if_eq (tgt := 24) hx hb dX5_countPositions_17 (by decide) (fun c2 => ?_) (fun c2 => ?_)
      · have h := h.1 c2
        refine lv_iconst (v := 0) hx hb dX5_countPositions_24 (by decide) ?_
        refine lv_iadd hx hb dX5_countPositions_25 ?_
        refine lv_topi (fun y1 ey1 => ?_)
        have h := h y1 ey1
        refine lv_istore_n (lv' := [(1, .int y1), (0, .ref (eA E 8)), (2, .int x2)]) hx hb dX5_countPositions_26 rfl hl (by decide) rfl (fun ls hl => ?_)
        obtain ⟨y2, ey2⟩ : ∃ y : Int32, y = x2 + 1 := ⟨_, rfl⟩
        have h := h y2 ey2
        refine lv_iinc (v := y2) (lv' := [(2, .int y2), (1, .int y1), (0, .ref (eA E 8))]) hx hb dX5_countPositions_27 hl (k := 2) rfl (by rw [ey2]; first | rfl | decide) (by decide) rfl (fun ls hl => ?_)
        refine lv_goto (tgt := 4) hx hb dX5_countPositions_30 (by decide) ?_
        exact h _ _ hw _ (lv_sub hl [2, 1, 0] rfl)
      · have h := h.2 c2
        refine lv_iconst (v := 1) hx hb dX5_countPositions_20 (by decide) ?_
        refine lv_goto (tgt := 25) hx hb dX5_countPositions_21 (by decide) ?_
        refine lv_iadd hx hb dX5_countPositions_25 ?_
        refine lv_topi (fun y3 ey3 => ?_)
        have h := h y3 ey3
        refine lv_istore_n (lv' := [(1, .int y3), (0, .ref (eA E 8)), (2, .int x2)]) hx hb dX5_countPositions_26 rfl hl (by decide) rfl (fun ls hl => ?_)
        obtain ⟨y4, ey4⟩ : ∃ y : Int32, y = x2 + 1 := ⟨_, rfl⟩
        have h := h y4 ey4
        refine lv_iinc (v := y4) (lv' := [(2, .int y4), (1, .int y3), (0, .ref (eA E 8))]) hx hb dX5_countPositions_27 hl (k := 2) rfl (by rw [ey4]; first | rfl | decide) (by decide) rfl (fun ls hl => ?_)
        refine lv_goto (tgt := 4) hx hb dX5_countPositions_30 (by decide) ?_
        exact h _ _ hw _ (lv_sub hl [2, 1, 0] rfl)
  refine lv_iconst (v := 0) hx hb dX5_countPositions_0 (by decide) ?_
  refine lv_istore_n (lv' := [(1, .int 0), (0, .ref (eA E 8))]) hx hb dX5_countPositions_1 rfl hl (by decide) rfl (fun ls hl => ?_)
  refine lv_iconst (v := 0) hx hb dX5_countPositions_2 (by decide) ?_
  refine lv_istore_n (lv' := [(2, .int 0), (1, .int 0), (0, .ref (eA E 8))]) hx hb dX5_countPositions_3 rfl hl (by decide) rfl (fun ls hl => ?_)
  exact h _ _ hw _ (lv_sub hl [2, 1, 0] rfl)
theorem hy_X6_clear : yX6_clear.cls ≠ "java/lang/invoke/MethodHandle" ∧ yX6_clear.cls ≠ "java/lang/invoke/VarHandle" ∧ (parseMethodDescriptor yX6_clear.desc).map (fun d => d.parameters.length) = some 0 := by decide +kernel
def wp_X6_clear (k : Nat) (w : Wd) (Post : Wd → Prop) : Prop :=
  wp_J7_fill_53178 (27 + 7 * k + 5) 6 w 0 (fun w1 => wp_J7_fill_53178 (27 + 7 * k + 6) 3 w1 1 (fun w2 => Post (sI (sI w2 (27 + 7 * k) 6 0) (27 + 7 * k) 7 0)))
set_option maxHeartbeats 4000000 in
set_option maxRecDepth 100000 in
theorem mt_X6_clear (l : Launch) {E : En} (hI : Inj E) (hF : ∀ o, (o < 15 ∨ 27 ≤ o ∧ o < 157) → o ∈ eL E) (k : Nat) (hk : k < 2) (w : Wd) {Post : Wd → Prop} (h : wp_X6_clear k w Post) : MV l E yX6_clear cX6_clear 1 none 1 23 [.ref (eA E ((27 + 7 * k)))] w Post := by
  refine MG.intro hI (by decide +kernel) (Nat.le_of_ble_eq_true rfl) ?_
  intro p e s m args below meth c Q C hr hlk hQ hw ls hl
  have hx := C.1
  have hb := C.2.1
  have hl : lv_has ls 1 [(0, .ref (eA E ((27 + 7 * k))))] := hl
  unfold wp_X6_clear at h
  refine lv_aload_n hx hb dX6_clear_0 rfl (lv_at hl 0 rfl) ?_
  refine g6_4 C hw k hk (hF _ (by have := hk; omega)) K_f_X6_24 dX6_clear_1 ?_
  refine lv_iconst (v := 0) hx hb dX6_clear_4 (by decide) ?_
  refine done_v hw (my_runS (As := [.ref (eA E ((27 + 7 * k + 5))), .int 0]) (rest := []) C hw (mt_J7_fill_53178 l C.2.2.2.2.2.2.2 (27 + 7 * k + 5) 6 (hF _ (by have := hk; omega)) (fun _ => ce_sea 5 hk (by decide) (by decide)) _ _ h) K_m_X6_30 K_s_J7_fill_53178 K_n_J7 K_c_J7_fill_53178 hy_J7_fill_53178 ⟨Nat.le_of_ble_eq_true rfl, Nat.le_of_ble_eq_true rfl⟩ hl.1 rfl (Nat.le_of_ble_eq_true rfl) dX6_clear_5 ⟨Nat.zero_le _, Nat.zero_le _⟩) (fun w1 H locs h hw => ?_)
  refine lv_aload_n hx hb dX6_clear_8 rfl (lv_at hl 0 rfl) ?_
  refine g6_5 C hw k hk (hF _ (by have := hk; omega)) K_f_X6_27 dX6_clear_9 ?_
  refine lv_iconst (v := 1) hx hb dX6_clear_12 (by decide) ?_
  refine done_v hw (my_runS (As := [.ref (eA E ((27 + 7 * k + 6))), .int 1]) (rest := []) C hw (mt_J7_fill_53178 l C.2.2.2.2.2.2.2 (27 + 7 * k + 6) 3 (hF _ (by have := hk; omega)) (fun _ => ce_sea 6 hk (by decide) (by decide)) _ _ h) K_m_X6_30 K_s_J7_fill_53178 K_n_J7 K_c_J7_fill_53178 hy_J7_fill_53178 ⟨Nat.le_of_ble_eq_true rfl, Nat.le_of_ble_eq_true rfl⟩ hl.1 rfl (Nat.le_of_ble_eq_true rfl) dX6_clear_13 ⟨Nat.zero_le _, Nat.zero_le _⟩) (fun w2 H locs h hw => ?_)
  refine lv_aload_n hx hb dX6_clear_16 rfl (lv_at hl 0 rfl) ?_
  refine lv_iconst (v := 0) hx hb dX6_clear_17 (by decide) ?_
  refine p6_6 C hw k hk (hF _ (by have := hk; omega)) K_f_X6_36 dX6_clear_18 (fun H locs hw => ?_)
  refine lv_aload_n hx hb dX6_clear_21 rfl (lv_at hl 0 rfl) ?_
  refine lv_iconst (v := 0) hx hb dX6_clear_22 (by decide) ?_
  refine p6_7 C hw k hk (hF _ (by have := hk; omega)) K_f_X6_40 dX6_clear_23 (fun H locs hw => ?_)
  rw [hQ]
  exact ret_v C hr hlk hw h dX6_clear_26
theorem hy_X8_append : yX8_append.cls ≠ "java/lang/invoke/MethodHandle" ∧ yX8_append.cls ≠ "java/lang/invoke/VarHandle" ∧ (parseMethodDescriptor yX8_append.desc).map (fun d => d.parameters.length) = some 5 := by decide +kernel
def wp_X8_append (w : Wd) (p1 : Int32) (p2 : Int32) (p3 : Int32) (p4 : Int32) (p5 : Int32) (Post : Int32 → Wd → Prop) : Prop :=
  (((gI w 1 1) + 20) ≤ 400 → (wp_X1_addFour w p1 (fun w1 => wp_X1_addFour w1 p2 (fun w2 => wp_X1_addFour w2 p3 (fun w3 => wp_X1_addFour w3 p4 (fun w4 => wp_X1_addFour w4 p5 (fun w5 => Post (gI w5 1 1) w5))))))) ∧ (¬ ((gI w 1 1) + 20) ≤ 400 → (Post ((-1)) w))
set_option maxHeartbeats 4000000 in
set_option maxRecDepth 100000 in
theorem mt_X8_append (l : Launch) {E : En} (hI : Inj E) (hF : ∀ o, (o < 15 ∨ 27 ≤ o ∧ o < 157) → o ∈ eL E) (w : Wd) (p1 : Int32) (p2 : Int32) (p3 : Int32) (p4 : Int32) (p5 : Int32) {Post : Int32 → Wd → Prop} (h : wp_X8_append w p1 p2 p3 p4 p5 Post) : MI l E yX8_append cX8_append 6 (some .int) 1 22 [.ref (eA E 0), .int p1, .int p2, .int p3, .int p4, .int p5] w Post := by
  refine MG.intro hI (by decide +kernel) (Nat.le_of_ble_eq_true rfl) ?_
  intro p e s m args below meth c Q C hr hlk hQ hw ls hl
  have hx := C.1
  have hb := C.2.1
  have hl : lv_has ls 6 [(0, .ref (eA E 0)), (1, .int p1), (2, .int p2), (3, .int p3), (4, .int p4), (5, .int p5)] := hl
  unfold wp_X8_append at h
  refine lv_aload_n hx hb dX8_append_0 rfl (lv_at hl 0 rfl) ?_
  refine g8_0 C hw (hF 0 (by decide)) K_f_X8_12 dX8_append_1 ?_
  refine g1_1 C hw (hF 1 (by decide)) K_f_X8_30 dX8_append_4 ?_
  refine lv_bipush (v := 20) hx hb dX8_append_7 (by decide) ?_
  refine lv_iadd hx hb dX8_append_9 ?_
  refine lv_sipush (v := 400) hx hb dX8_append_10 (by decide) ?_
  refine lv_icmp_le (tgt := 18) hx hb dX8_append_13 (by decide) (fun c1 => ?_) (fun c1 => ?_)
  · have h := h.1 c1
    refine lv_aload_n hx hb dX8_append_18 rfl (lv_at hl 0 rfl) ?_
    refine g8_0 C hw (hF 0 (by decide)) K_f_X8_12 dX8_append_19 ?_
    refine lv_iload_n hx hb dX8_append_22 rfl (lv_at hl 1 rfl) ?_
    refine done_v hw (my_runV (As := [.int p1]) (rest := []) C hw 1 1 (hF 1 (by decide)) rfl rfl (mt_X1_addFour l C.2.2.2.2.2.2.2 hF _ _ h) K_m_X8_34 K_i_X1_addFour K_v_X1_addFour K_n_X1 K_c_X1_addFour hy_X1_addFour ⟨Nat.le_of_ble_eq_true rfl, Nat.le_of_ble_eq_true rfl⟩ hl.1 rfl (Nat.le_of_ble_eq_true rfl) dX8_append_23 ⟨Nat.zero_le _, Nat.zero_le _⟩) (fun w1 H locs h hw => ?_)
    refine lv_aload_n hx hb dX8_append_26 rfl (lv_at hl 0 rfl) ?_
    refine g8_0 C hw (hF 0 (by decide)) K_f_X8_12 dX8_append_27 ?_
    refine lv_iload_n hx hb dX8_append_30 rfl (lv_at hl 2 rfl) ?_
    refine done_v hw (my_runV (As := [.int p2]) (rest := []) C hw 1 1 (hF 1 (by decide)) rfl rfl (mt_X1_addFour l C.2.2.2.2.2.2.2 hF _ _ h) K_m_X8_34 K_i_X1_addFour K_v_X1_addFour K_n_X1 K_c_X1_addFour hy_X1_addFour ⟨Nat.le_of_ble_eq_true rfl, Nat.le_of_ble_eq_true rfl⟩ hl.1 rfl (Nat.le_of_ble_eq_true rfl) dX8_append_31 ⟨Nat.zero_le _, Nat.zero_le _⟩) (fun w2 H locs h hw => ?_)
    refine lv_aload_n hx hb dX8_append_34 rfl (lv_at hl 0 rfl) ?_
    refine g8_0 C hw (hF 0 (by decide)) K_f_X8_12 dX8_append_35 ?_
    refine lv_iload_n hx hb dX8_append_38 rfl (lv_at hl 3 rfl) ?_
    refine done_v hw (my_runV (As := [.int p3]) (rest := []) C hw 1 1 (hF 1 (by decide)) rfl rfl (mt_X1_addFour l C.2.2.2.2.2.2.2 hF _ _ h) K_m_X8_34 K_i_X1_addFour K_v_X1_addFour K_n_X1 K_c_X1_addFour hy_X1_addFour ⟨Nat.le_of_ble_eq_true rfl, Nat.le_of_ble_eq_true rfl⟩ hl.1 rfl (Nat.le_of_ble_eq_true rfl) dX8_append_39 ⟨Nat.zero_le _, Nat.zero_le _⟩) (fun w3 H locs h hw => ?_)
    refine lv_aload_n hx hb dX8_append_42 rfl (lv_at hl 0 rfl) ?_
    refine g8_0 C hw (hF 0 (by decide)) K_f_X8_12 dX8_append_43 ?_
    refine lv_iload hx hb dX8_append_46 (lv_at hl 4 rfl) ?_
    refine done_v hw (my_runV (As := [.int p4]) (rest := []) C hw 1 1 (hF 1 (by decide)) rfl rfl (mt_X1_addFour l C.2.2.2.2.2.2.2 hF _ _ h) K_m_X8_34 K_i_X1_addFour K_v_X1_addFour K_n_X1 K_c_X1_addFour hy_X1_addFour ⟨Nat.le_of_ble_eq_true rfl, Nat.le_of_ble_eq_true rfl⟩ hl.1 rfl (Nat.le_of_ble_eq_true rfl) dX8_append_48 ⟨Nat.zero_le _, Nat.zero_le _⟩) (fun w4 H locs h hw => ?_)
    refine lv_aload_n hx hb dX8_append_51 rfl (lv_at hl 0 rfl) ?_
    refine g8_0 C hw (hF 0 (by decide)) K_f_X8_12 dX8_append_52 ?_
    refine lv_iload hx hb dX8_append_55 (lv_at hl 5 rfl) ?_
    refine done_v hw (my_runV (As := [.int p5]) (rest := []) C hw 1 1 (hF 1 (by decide)) rfl rfl (mt_X1_addFour l C.2.2.2.2.2.2.2 hF _ _ h) K_m_X8_34 K_i_X1_addFour K_v_X1_addFour K_n_X1 K_c_X1_addFour hy_X1_addFour ⟨Nat.le_of_ble_eq_true rfl, Nat.le_of_ble_eq_true rfl⟩ hl.1 rfl (Nat.le_of_ble_eq_true rfl) dX8_append_57 ⟨Nat.zero_le _, Nat.zero_le _⟩) (fun w5 H locs h hw => ?_)
    refine lv_aload_n hx hb dX8_append_60 rfl (lv_at hl 0 rfl) ?_
    refine g8_0 C hw (hF 0 (by decide)) K_f_X8_12 dX8_append_61 ?_
    refine g1_1 C hw (hF 1 (by decide)) K_f_X8_30 dX8_append_64 ?_
    rw [hQ]
    exact ret_i C hr hlk hw h dX8_append_67
  · have h := h.2 c1
    refine lv_iconst (v := (-1)) hx hb dX8_append_16 (by decide) ?_
    rw [hQ]
    exact ret_i C hr hlk hw h dX8_append_17
theorem hy_X8_sum : yX8_sum.cls ≠ "java/lang/invoke/MethodHandle" ∧ yX8_sum.cls ≠ "java/lang/invoke/VarHandle" ∧ (parseMethodDescriptor yX8_sum.desc).map (fun d => d.parameters.length) = some 0 := by decide +kernel
def wp_X8_sum (w : Wd) (Post : Int32 → Wd → Prop) : Prop :=
  wp_X0_sumNow w (fun r1 w1 => Post r1 w1)
set_option maxHeartbeats 4000000 in
set_option maxRecDepth 100000 in
theorem mt_X8_sum (l : Launch) {E : En} (hI : Inj E) (hF : ∀ o, (o < 15 ∨ 27 ≤ o ∧ o < 157) → o ∈ eL E) (w : Wd) {Post : Int32 → Wd → Prop} (h : wp_X8_sum w Post) : MI l E yX8_sum cX8_sum 1 (some .int) 6 142 [.ref (eA E 0)] w Post := by
  refine MG.intro hI (by decide +kernel) (Nat.le_of_ble_eq_true rfl) ?_
  intro p e s m args below meth c Q C hr hlk hQ hw ls hl
  have hx := C.1
  have hb := C.2.1
  have hl : lv_has ls 1 [(0, .ref (eA E 0))] := hl
  unfold wp_X8_sum at h
  refine lv_aload_n hx hb dX8_sum_0 rfl (lv_at hl 0 rfl) ?_
  refine g8_1 C hw (hF 0 (by decide)) K_f_X8_19 dX8_sum_1 ?_
  refine done_i hw (my_runV (As := []) (rest := []) C hw 3 0 (hF 3 (by decide)) rfl rfl (mt_X0_sumNow l C.2.2.2.2.2.2.2 hF _ h) K_m_X8_144 K_i_X0_sumNow K_v_X0_sumNow K_n_X0 K_c_X0_sumNow hy_X0_sumNow ⟨Nat.le_of_ble_eq_true rfl, Nat.le_of_ble_eq_true rfl⟩ hl.1 rfl (Nat.le_of_ble_eq_true rfl) dX8_sum_4 ⟨Nat.zero_le _, Nat.zero_le _⟩) (fun r1 w1 H locs h hw => ?_)
  rw [hQ]
  exact ret_i C hr hlk hw h dX8_sum_7
theorem hy_X8_isRight : yX8_isRight.cls ≠ "java/lang/invoke/MethodHandle" ∧ yX8_isRight.cls ≠ "java/lang/invoke/VarHandle" ∧ (parseMethodDescriptor yX8_isRight.desc).map (fun d => d.parameters.length) = some 0 := by decide +kernel
def wp_X8_isRight (w : Wd) (Post : Int32 → Wd → Prop) : Prop :=
  ∀ J4 : Int32 → Int32 → Wd → Prop, (∀ (x1 : Int32) (x2 : Int32) (w : Wd), (((gI w (27 + 7 * 1) 6) ≤ x2 → ((x1 = 0 ∨ x1 = 1) ∧ Post x1 w)) ∧ (¬ (gI w (27 + 7 * 1) 6) ≤ x2 → ((x1 = 0 → (∀ y1 : Int32, y1 = x2 + 1 → (J4 0 y1 w))) ∧ (¬ x1 = 0 → (wp_X0_hasRightValue w x2 (fun r1 w1 => (r1 = 0 → (∀ y2 : Int32, y2 = x2 + 1 → (J4 0 y2 w1))) ∧ (¬ r1 = 0 → (∀ y3 : Int32, y3 = x2 + 1 → (J4 1 y3 w1))))))))) → J4 x1 x2 w) →
  J4 1 0 w
set_option maxHeartbeats 4000000 in
set_option maxRecDepth 100000 in
theorem mt_X8_isRight (l : Launch) {E : En} (hI : Inj E) (hF : ∀ o, (o < 15 ∨ 27 ≤ o ∧ o < 157) → o ∈ eL E) (w : Wd) {Post : Int32 → Wd → Prop} (h : wp_X8_isRight w Post) : MI l E yX8_isRight cX8_isRight 3 (some .boolean) 6 144 [.ref (eA E 0)] w Post := by
  refine MG.intro hI (by decide +kernel) (Nat.le_of_ble_eq_true rfl) ?_
  intro p e s m args below meth c Q C hr hlk hQ hw ls hl
  have hx := C.1
  have hb := C.2.1
  have hl : lv_has ls 3 [(0, .ref (eA E 0))] := hl
  unfold wp_X8_isRight at h
  have h := h (fun x1 x2 w => Jp E p l e (Rm 6 144) s m args below meth c Q 3 4 [(0, .ref (eA E 0)), (1, .int x1), (2, .int x2)] w)
  have h := h ?_
  rotate_left
  · intro x1 x2 w h H locs hw ls hl
    refine lv_iload_n hx hb dX8_isRight_4 rfl (lv_at hl 2 rfl) ?_
    refine lv_aload_n hx hb dX8_isRight_5 rfl (lv_at hl 0 rfl) ?_
    refine g8_1 C hw (hF 0 (by decide)) K_f_X8_19 dX8_isRight_6 ?_
    refine g0_0 C hw (hF 3 (by decide)) K_f_X8_60 dX8_isRight_9 ?_
    refine g6_6 C hw 1 (show 1 < 2 by decide) (hF _ (by have := (show 1 < 2 by decide); omega)) K_f_X8_63 dX8_isRight_12 ?_
    refine lv_icmp_ge (tgt := 45) hx hb dX8_isRight_15 (by decide) (fun c1 => ?_) (fun c1 => ?_)
    · have h := h.1 c1
      refine lv_iload_n hx hb dX8_isRight_45 rfl (lv_at hl 1 rfl) ?_
      rw [hQ]
      exact ret_z C hr hlk hw h.2 h.1 dX8_isRight_46
    · have h := h.2 c1
      refine lv_iload_n hx hb dX8_isRight_18 rfl (lv_at hl 1 rfl) ?_
      refine lv_if_eq (tgt := 37) hx hb dX8_isRight_19 (by decide) (fun c2 => ?_) (fun c2 => ?_)
      · have h := h.1 c2
        refine lv_iconst (v := 0) hx hb dX8_isRight_37 (by decide) ?_
        refine lv_istore_n (lv' := [(1, .int 0), (0, .ref (eA E 0)), (2, .int x2)]) hx hb dX8_isRight_38 rfl hl (by decide) rfl (fun ls hl => ?_)
        obtain ⟨y1, ey1⟩ : ∃ y : Int32, y = x2 + 1 := ⟨_, rfl⟩
        have h := h y1 ey1
        refine lv_iinc (v := y1) (lv' := [(2, .int y1), (1, .int 0), (0, .ref (eA E 0))]) hx hb dX8_isRight_39 hl (k := 2) rfl (by rw [ey1]; first | rfl | decide) (by decide) rfl (fun ls hl => ?_)
        refine lv_goto (tgt := 4) hx hb dX8_isRight_42 (by decide) ?_
        exact h _ _ hw _ (lv_sub hl [2, 1, 0] rfl)
      · have h := h.2 c2
        refine lv_aload_n hx hb dX8_isRight_22 rfl (lv_at hl 0 rfl) ?_
        refine g8_1 C hw (hF 0 (by decide)) K_f_X8_19 dX8_isRight_23 ?_
        refine lv_iload_n hx hb dX8_isRight_26 rfl (lv_at hl 2 rfl) ?_
        refine done_i hw (my_runV (As := [.int x2]) (rest := []) C hw 3 0 (hF 3 (by decide)) rfl rfl (mt_X0_hasRightValue l C.2.2.2.2.2.2.2 hF _ _ h) K_m_X8_169 K_i_X0_hasRightValue K_v_X0_hasRightValue K_n_X0 K_c_X0_hasRightValue hy_X0_hasRightValue ⟨Nat.le_of_ble_eq_true rfl, Nat.le_of_ble_eq_true rfl⟩ hl.1 rfl (Nat.le_of_ble_eq_true rfl) dX8_isRight_27 ⟨Nat.zero_le _, Nat.zero_le _⟩) (fun r1 w1 H locs h hw => ?_)
        refine lv_if_eq (tgt := 37) hx hb dX8_isRight_30 (by decide) (fun c3 => ?_) (fun c3 => ?_)
        · have h := h.1 c3
          refine lv_iconst (v := 0) hx hb dX8_isRight_37 (by decide) ?_
          refine lv_istore_n (lv' := [(1, .int 0), (0, .ref (eA E 0)), (2, .int x2)]) hx hb dX8_isRight_38 rfl hl (by decide) rfl (fun ls hl => ?_)
          obtain ⟨y2, ey2⟩ : ∃ y : Int32, y = x2 + 1 := ⟨_, rfl⟩
          have h := h y2 ey2
          refine lv_iinc (v := y2) (lv' := [(2, .int y2), (1, .int 0), (0, .ref (eA E 0))]) hx hb dX8_isRight_39 hl (k := 2) rfl (by rw [ey2]; first | rfl | decide) (by decide) rfl (fun ls hl => ?_)
          refine lv_goto (tgt := 4) hx hb dX8_isRight_42 (by decide) ?_
          exact h _ _ hw _ (lv_sub hl [2, 1, 0] rfl)
        · have h := h.2 c3
          refine lv_iconst (v := 1) hx hb dX8_isRight_33 (by decide) ?_
          refine lv_goto (tgt := 38) hx hb dX8_isRight_34 (by decide) ?_
          refine lv_istore_n (lv' := [(1, .int 1), (0, .ref (eA E 0)), (2, .int x2)]) hx hb dX8_isRight_38 rfl hl (by decide) rfl (fun ls hl => ?_)
          obtain ⟨y3, ey3⟩ : ∃ y : Int32, y = x2 + 1 := ⟨_, rfl⟩
          have h := h y3 ey3
          refine lv_iinc (v := y3) (lv' := [(2, .int y3), (1, .int 1), (0, .ref (eA E 0))]) hx hb dX8_isRight_39 hl (k := 2) rfl (by rw [ey3]; first | rfl | decide) (by decide) rfl (fun ls hl => ?_)
          refine lv_goto (tgt := 4) hx hb dX8_isRight_42 (by decide) ?_
          exact h _ _ hw _ (lv_sub hl [2, 1, 0] rfl)
  refine lv_iconst (v := 1) hx hb dX8_isRight_0 (by decide) ?_
  refine lv_istore_n (lv' := [(1, .int 1), (0, .ref (eA E 0))]) hx hb dX8_isRight_1 rfl hl (by decide) rfl (fun ls hl => ?_)
  refine lv_iconst (v := 0) hx hb dX8_isRight_2 (by decide) ?_
  refine lv_istore_n (lv' := [(2, .int 0), (1, .int 1), (0, .ref (eA E 0))]) hx hb dX8_isRight_3 rfl hl (by decide) rfl (fun ls hl => ?_)
  exact h _ _ hw _ (lv_sub hl [2, 1, 0] rfl)
theorem hy_X8_allowed : yX8_allowed.cls ≠ "java/lang/invoke/MethodHandle" ∧ yX8_allowed.cls ≠ "java/lang/invoke/VarHandle" ∧ (parseMethodDescriptor yX8_allowed.desc).map (fun d => d.parameters.length) = some 0 := by decide +kernel
def wp_X8_allowed (w : Wd) (Post : Int32 → Wd → Prop) : Prop :=
  wp_X0_listChoices w (fun r1 w1 => Post r1 w1)
set_option maxHeartbeats 4000000 in
set_option maxRecDepth 100000 in
theorem mt_X8_allowed (l : Launch) {E : En} (hI : Inj E) (hF : ∀ o, (o < 15 ∨ 27 ≤ o ∧ o < 157) → o ∈ eL E) (w : Wd) {Post : Int32 → Wd → Prop} (h : wp_X8_allowed w Post) : MI l E yX8_allowed cX8_allowed 1 (some .int) 3 73 [.ref (eA E 0)] w Post := by
  refine MG.intro hI (by decide +kernel) (Nat.le_of_ble_eq_true rfl) ?_
  intro p e s m args below meth c Q C hr hlk hQ hw ls hl
  have hx := C.1
  have hb := C.2.1
  have hl : lv_has ls 1 [(0, .ref (eA E 0))] := hl
  unfold wp_X8_allowed at h
  refine lv_aload_n hx hb dX8_allowed_0 rfl (lv_at hl 0 rfl) ?_
  refine g8_1 C hw (hF 0 (by decide)) K_f_X8_19 dX8_allowed_1 ?_
  refine done_i hw (my_runV (As := []) (rest := []) C hw 3 0 (hF 3 (by decide)) rfl rfl (mt_X0_listChoices l C.2.2.2.2.2.2.2 hF _ h) K_m_X8_173 K_i_X0_listChoices K_v_X0_listChoices K_n_X0 K_c_X0_listChoices hy_X0_listChoices ⟨Nat.le_of_ble_eq_true rfl, Nat.le_of_ble_eq_true rfl⟩ hl.1 rfl (Nat.le_of_ble_eq_true rfl) dX8_allowed_4 ⟨Nat.zero_le _, Nat.zero_le _⟩) (fun r1 w1 H locs h hw => ?_)
  rw [hQ]
  exact ret_i C hr hlk hw h dX8_allowed_7
theorem hy_X8_best : yX8_best.cls ≠ "java/lang/invoke/MethodHandle" ∧ yX8_best.cls ≠ "java/lang/invoke/VarHandle" ∧ (parseMethodDescriptor yX8_best.desc).map (fun d => d.parameters.length) = some 0 := by decide +kernel
def wp_X8_best (w : Wd) (Post : Int32 → Wd → Prop) : Prop :=
  wp_X0_listChoices w (fun r1 w1 => wp_X0_sumNow w1 (fun r2 w2 => wp_X0_firstWinning w2 r1 r2 (fun r3 w3 => Post r3 w3)))
set_option maxHeartbeats 4000000 in
set_option maxRecDepth 100000 in
theorem mt_X8_best (l : Launch) {E : En} (hI : Inj E) (hF : ∀ o, (o < 15 ∨ 27 ≤ o ∧ o < 157) → o ∈ eL E) (w : Wd) {Post : Int32 → Wd → Prop} (h : wp_X8_best w Post) : MI l E yX8_best cX8_best 1 (some .int) 6 147 [.ref (eA E 0)] w Post := by
  refine MG.intro hI (by decide +kernel) (Nat.le_of_ble_eq_true rfl) ?_
  intro p e s m args below meth c Q C hr hlk hQ hw ls hl
  have hx := C.1
  have hb := C.2.1
  have hl : lv_has ls 1 [(0, .ref (eA E 0))] := hl
  unfold wp_X8_best at h
  refine lv_aload_n hx hb dX8_best_0 rfl (lv_at hl 0 rfl) ?_
  refine g8_1 C hw (hF 0 (by decide)) K_f_X8_19 dX8_best_1 ?_
  refine lv_aload_n hx hb dX8_best_4 rfl (lv_at hl 0 rfl) ?_
  refine g8_1 C hw (hF 0 (by decide)) K_f_X8_19 dX8_best_5 ?_
  refine done_i hw (my_runV (As := []) (rest := [.ref (eA E 3)]) C hw 3 0 (hF 3 (by decide)) rfl rfl (mt_X0_listChoices l C.2.2.2.2.2.2.2 hF _ h) K_m_X8_173 K_i_X0_listChoices K_v_X0_listChoices K_n_X0 K_c_X0_listChoices hy_X0_listChoices ⟨Nat.le_of_ble_eq_true rfl, Nat.le_of_ble_eq_true rfl⟩ hl.1 rfl (Nat.le_of_ble_eq_true rfl) dX8_best_8 ⟨Nat.zero_le _, Nat.zero_le _⟩) (fun r1 w1 H locs h hw => ?_)
  refine lv_aload_n hx hb dX8_best_11 rfl (lv_at hl 0 rfl) ?_
  refine g8_1 C hw (hF 0 (by decide)) K_f_X8_19 dX8_best_12 ?_
  refine done_i hw (my_runV (As := []) (rest := [.int r1, .ref (eA E 3)]) C hw 3 0 (hF 3 (by decide)) rfl rfl (mt_X0_sumNow l C.2.2.2.2.2.2.2 hF _ h) K_m_X8_144 K_i_X0_sumNow K_v_X0_sumNow K_n_X0 K_c_X0_sumNow hy_X0_sumNow ⟨Nat.le_of_ble_eq_true rfl, Nat.le_of_ble_eq_true rfl⟩ hl.1 rfl (Nat.le_of_ble_eq_true rfl) dX8_best_15 ⟨Nat.zero_le _, Nat.zero_le _⟩) (fun r2 w2 H locs h hw => ?_)
  refine done_i hw (my_runV (As := [.int r1, .int r2]) (rest := []) C hw 3 0 (hF 3 (by decide)) rfl rfl (mt_X0_firstWinning l C.2.2.2.2.2.2.2 hF _ _ _ h) K_m_X8_193 K_i_X0_firstWinning K_v_X0_firstWinning K_n_X0 K_c_X0_firstWinning hy_X0_firstWinning ⟨Nat.le_of_ble_eq_true rfl, Nat.le_of_ble_eq_true rfl⟩ hl.1 rfl (Nat.le_of_ble_eq_true rfl) dX8_best_18 ⟨Nat.zero_le _, Nat.zero_le _⟩) (fun r3 w3 H locs h hw => ?_)
  rw [hQ]
  exact ret_i C hr hlk hw h dX8_best_21
theorem hy_X8_undo : yX8_undo.cls ≠ "java/lang/invoke/MethodHandle" ∧ yX8_undo.cls ≠ "java/lang/invoke/VarHandle" ∧ (parseMethodDescriptor yX8_undo.desc).map (fun d => d.parameters.length) = some 0 := by decide +kernel
def wp_X8_undo (w : Wd) (Post : Int32 → Wd → Prop) : Prop :=
  wp_X2_goBack 0 w (fun r1 w1 => Post r1 w1)
set_option maxHeartbeats 4000000 in
set_option maxRecDepth 100000 in
theorem mt_X8_undo (l : Launch) {E : En} (hI : Inj E) (hF : ∀ o, (o < 15 ∨ 27 ≤ o ∧ o < 157) → o ∈ eL E) (w : Wd) {Post : Int32 → Wd → Prop} (h : wp_X8_undo w Post) : MI l E yX8_undo cX8_undo 1 (some .int) 3 65 [.ref (eA E 0)] w Post := by
  refine MG.intro hI (by decide +kernel) (Nat.le_of_ble_eq_true rfl) ?_
  intro p e s m args below meth c Q C hr hlk hQ hw ls hl
  have hx := C.1
  have hb := C.2.1
  have hl : lv_has ls 1 [(0, .ref (eA E 0))] := hl
  unfold wp_X8_undo at h
  refine lv_aload_n hx hb dX8_undo_0 rfl (lv_at hl 0 rfl) ?_
  refine g8_2 C hw (hF 0 (by decide)) K_f_X8_26 dX8_undo_1 ?_
  refine lv_aload_n hx hb dX8_undo_4 rfl (lv_at hl 0 rfl) ?_
  refine g8_1 C hw (hF 0 (by decide)) K_f_X8_19 dX8_undo_5 ?_
  refine g0_1 C hw (hF 3 (by decide)) K_f_X8_72 dX8_undo_8 ?_
  refine done_i hw (my_runV (As := [.ref (eA E ((53 + 8 * 0)))]) (rest := []) C hw 11 2 (hF 11 (by decide)) rfl rfl (mt_X2_goBack l C.2.2.2.2.2.2.2 hF 0 (show 0 < 13 by decide) _ h) K_m_X8_259 K_i_X2_goBack K_v_X2_goBack K_n_X2 K_c_X2_goBack hy_X2_goBack ⟨Nat.le_of_ble_eq_true rfl, Nat.le_of_ble_eq_true rfl⟩ hl.1 rfl (Nat.le_of_ble_eq_true rfl) dX8_undo_11 ⟨Nat.zero_le _, Nat.zero_le _⟩) (fun r1 w1 H locs h hw => ?_)
  rw [hQ]
  exact ret_i C hr hlk hw h dX8_undo_14

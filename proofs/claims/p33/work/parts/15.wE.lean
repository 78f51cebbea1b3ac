theorem hy_X8_checkLadder : yX8_checkLadder.cls ≠ "java/lang/invoke/MethodHandle" ∧ yX8_checkLadder.cls ≠ "java/lang/invoke/VarHandle" ∧ (parseMethodDescriptor yX8_checkLadder.desc).map (fun d => d.parameters.length) = some 1 := by decide +kernel
def wp_X8_checkLadder (w : Wd) (p1 : Int32) (Post : Wd → Prop) (Ex : Nat → Wd → Prop) : Prop :=
  wp_X6_hasLadder 1 w p1 (fun r1 w1 => (r1 = 0 → (Ex 1 w1)) ∧ (¬ r1 = 0 → (Post w1)))
set_option maxHeartbeats 4000000 in
set_option maxRecDepth 100000 in
theorem mt_X8_checkLadder (l : Launch) (hT : l.stackTraces = false) {E : En} (hI : Inj E) (hF : ∀ o, (o < 15 ∨ 27 ≤ o ∧ o < 157) → o ∈ eL E) (w : Wd) (p1 : Int32) {Post : Wd → Prop} {Ex : Nat → Wd → Prop} (h : wp_X8_checkLadder w p1 Post Ex) : MXV l E yX8_checkLadder cX8_checkLadder 2 none 6 82 1 6 [.ref (eA E 0), .int p1] w Post Ex := by
  refine MX.intro hI (by decide +kernel) (Nat.le_of_ble_eq_true rfl) ?_
  intro p e s m args below meth c Q C hr hlk hno hQ hw ls hl
  have hx := C.1
  have hb := C.2.1
  have hl : lv_has ls 2 [(0, .ref (eA E 0)), (1, .int p1)] := hl
  unfold wp_X8_checkLadder at h
  refine lv_aload_n hx hb dX8_checkLadder_0 rfl (lv_at hl 0 rfl) ?_
  refine g8_1 C hw (hF 0 (by decide)) K_f_X8_19 dX8_checkLadder_1 ?_
  refine g0_0 C hw (hF 3 (by decide)) K_f_X8_60 dX8_checkLadder_4 ?_
  refine lv_iload_n hx hb dX8_checkLadder_7 rfl (lv_at hl 1 rfl) ?_
  refine done_i hw (my_runV (As := [.int p1]) (rest := []) C hw (27 + 7 * 1) 6 (hF _ (by have := (show 1 < 2 by decide); omega)) (ce_se (show 1 < 2 by decide)) rfl (mt_X6_hasLadder l C.2.2.2.2.2.2.2 hF 1 (show 1 < 2 by decide) _ _ h) K_m_X8_270 K_i_X6_hasLadder K_v_X6_hasLadder K_n_X6 K_c_X6_hasLadder hy_X6_hasLadder ⟨Nat.le_of_ble_eq_true rfl, Nat.le_of_ble_eq_true rfl⟩ hl.1 rfl (Nat.le_of_ble_eq_true rfl) dX8_checkLadder_8 ⟨Nat.le_of_ble_eq_true rfl, Nat.le_of_ble_eq_true rfl⟩) (fun r1 w1 H locs h hw => ?_)
  refine lv_if_ne (tgt := 25) hx hb dX8_checkLadder_11 (by decide) (fun c1 => ?_) (fun c1 => ?_)
  · have h := h.2 c1
    rw [hQ]
    refine vx_ret ?_
    refine W.widen (k := 1) (n := 6) (by decide) (by decide) ?_
    exact ret_v C hr hlk hw h dX8_checkLadder_25
  · have h := h.1 c1
    rw [hQ]
    exact r_throwW (i := 7) 1 (by decide) C hT hlk hno hw hl.1 h K_k_X8_124 K_n_o_IndexOutOfBoundsException (by decide +kernel) dX8_checkLadder_14 dX8_checkLadder_17 dX8_checkLadder_18 dX8_checkLadder_21 dX8_checkLadder_24 ⟨Nat.le_of_ble_eq_true rfl, Nat.le_of_ble_eq_true rfl, Nat.le_of_ble_eq_true rfl, Nat.le_of_ble_eq_true rfl⟩ ⟨Nat.le_of_ble_eq_true rfl, Nat.le_of_ble_eq_true rfl⟩
theorem hy_X8_checkWhat : yX8_checkWhat.cls ≠ "java/lang/invoke/MethodHandle" ∧ yX8_checkWhat.cls ≠ "java/lang/invoke/VarHandle" ∧ (parseMethodDescriptor yX8_checkWhat.desc).map (fun d => d.parameters.length) = some 2 := by decide +kernel
def wp_X8_checkWhat (w : Wd) (p0 : Int32) (p1 : Int32) (Post : Wd → Prop) (Ex : Nat → Wd → Prop) : Prop :=
  (p0 < 0 → (Ex 0 w)) ∧ (¬ p0 < 0 → ((p0 ≤ p1 → (Post w)) ∧ (¬ p0 ≤ p1 → (Ex 0 w))))
set_option maxHeartbeats 4000000 in
set_option maxRecDepth 100000 in
theorem mt_X8_checkWhat (l : Launch) (hT : l.stackTraces = false) {E : En} (hI : Inj E) (hF : ∀ o, (o < 15 ∨ 27 ≤ o ∧ o < 157) → o ∈ eL E) (w : Wd) (p0 : Int32) (p1 : Int32) {Post : Wd → Prop} {Ex : Nat → Wd → Prop} (h : wp_X8_checkWhat w p0 p1 Post Ex) : MXV l E yX8_checkWhat cX8_checkWhat 2 none 6 82 1 6 [.int p0, .int p1] w Post Ex := by
  refine MX.intro hI (by decide +kernel) (Nat.le_of_ble_eq_true rfl) ?_
  intro p e s m args below meth c Q C hr hlk hno hQ hw ls hl
  have hx := C.1
  have hb := C.2.1
  have hl : lv_has ls 2 [(0, .int p0), (1, .int p1)] := hl
  unfold wp_X8_checkWhat at h
  refine lv_iload_n hx hb dX8_checkWhat_0 rfl (lv_at hl 0 rfl) ?_
  refine lv_if_lt (tgt := 9) hx hb dX8_checkWhat_1 (by decide) (fun c1 => ?_) (fun c1 => ?_)
  · have h := h.1 c1
    rw [hQ]
    exact r_throwW (i := 6) 0 (by decide) C hT hlk hno hw hl.1 h K_k_X8_38 K_n_o_IllegalArgumentException (by decide +kernel) dX8_checkWhat_9 dX8_checkWhat_12 dX8_checkWhat_13 dX8_checkWhat_16 dX8_checkWhat_19 ⟨Nat.le_of_ble_eq_true rfl, Nat.le_of_ble_eq_true rfl, Nat.le_of_ble_eq_true rfl, Nat.le_of_ble_eq_true rfl⟩ ⟨Nat.le_of_ble_eq_true rfl, Nat.le_of_ble_eq_true rfl⟩
  · have h := h.2 c1
    refine lv_iload_n hx hb dX8_checkWhat_4 rfl (lv_at hl 0 rfl) ?_
    refine lv_iload_n hx hb dX8_checkWhat_5 rfl (lv_at hl 1 rfl) ?_
    refine lv_icmp_le (tgt := 20) hx hb dX8_checkWhat_6 (by decide) (fun c2 => ?_) (fun c2 => ?_)
    · have h := h.1 c2
      rw [hQ]
      refine vx_ret ?_
      refine W.widen (k := 1) (n := 6) (by decide) (by decide) ?_
      exact ret_v C hr hlk hw h dX8_checkWhat_20
    · have h := h.2 c2
      rw [hQ]
      exact r_throwW (i := 6) 0 (by decide) C hT hlk hno hw hl.1 h K_k_X8_38 K_n_o_IllegalArgumentException (by decide +kernel) dX8_checkWhat_9 dX8_checkWhat_12 dX8_checkWhat_13 dX8_checkWhat_16 dX8_checkWhat_19 ⟨Nat.le_of_ble_eq_true rfl, Nat.le_of_ble_eq_true rfl, Nat.le_of_ble_eq_true rfl, Nat.le_of_ble_eq_true rfl⟩ ⟨Nat.le_of_ble_eq_true rfl, Nat.le_of_ble_eq_true rfl⟩
theorem hy_X8_parse : yX8_parse.cls ≠ "java/lang/invoke/MethodHandle" ∧ yX8_parse.cls ≠ "java/lang/invoke/VarHandle" ∧ (parseMethodDescriptor yX8_parse.desc).map (fun d => d.parameters.length) = some 1 := by decide +kernel
def wp_X8_parse (w : Wd) (p1 : Int32) (Post : Int32 → Wd → Prop) (Ex : Nat → Wd → Prop) : Prop :=
  (p1 < 0 → (Ex 0 w)) ∧ (¬ p1 < 0 → ((p1 ≤ (gI w 1 1) → (wp_X1_readGame w p1 (fun r1 w1 => (r1 = 0 → (wp_X0_begin 0 w1 (fun w2 => wp_X2_forgetAll w2 (fun w3 => Post (gI w3 (27 + 7 * 1) 6) w3)))) ∧ (¬ r1 = 0 → (Post (((-2)) - r1) w1))))) ∧ (¬ p1 ≤ (gI w 1 1) → (Ex 0 w))))
set_option maxHeartbeats 4000000 in
set_option maxRecDepth 100000 in
theorem mt_X8_parse (l : Launch) (hT : l.stackTraces = false) {E : En} (hI : Inj E) (hF : ∀ o, (o < 15 ∨ 27 ≤ o ∧ o < 157) → o ∈ eL E) (w : Wd) (p1 : Int32) {Post : Int32 → Wd → Prop} {Ex : Nat → Wd → Prop} (h : wp_X8_parse w p1 Post Ex) : MXI l E yX8_parse cX8_parse 3 (some .int) 8 174 1 6 [.ref (eA E 0), .int p1] w Post Ex := by
  refine MX.intro hI (by decide +kernel) (Nat.le_of_ble_eq_true rfl) ?_
  intro p e s m args below meth c Q C hr hlk hno hQ hw ls hl
  have hx := C.1
  have hb := C.2.1
  have hl : lv_has ls 3 [(0, .ref (eA E 0)), (1, .int p1)] := hl
  unfold wp_X8_parse at h
  refine lv_iload_n hx hb dX8_parse_0 rfl (lv_at hl 1 rfl) ?_
  refine lv_if_lt (tgt := 15) hx hb dX8_parse_1 (by decide) (fun c1 => ?_) (fun c1 => ?_)
  · have h := h.1 c1
    rw [hQ]
    exact r_throw (i := 0) 0 (by decide) C hT hlk hno hw hl.1 h K_k_X8_38 K_n_o_IllegalArgumentException (by decide +kernel) dX8_parse_15 dX8_parse_18 dX8_parse_19 dX8_parse_21 dX8_parse_24 ⟨Nat.le_of_ble_eq_true rfl, Nat.le_of_ble_eq_true rfl, Nat.le_of_ble_eq_true rfl, Nat.le_of_ble_eq_true rfl⟩ ⟨Nat.le_of_ble_eq_true rfl, Nat.le_of_ble_eq_true rfl⟩
  · have h := h.2 c1
    refine lv_iload_n hx hb dX8_parse_4 rfl (lv_at hl 1 rfl) ?_
    refine lv_aload_n hx hb dX8_parse_5 rfl (lv_at hl 0 rfl) ?_
    refine g8_0 C hw (hF 0 (by decide)) K_f_X8_12 dX8_parse_6 ?_
    refine g1_1 C hw (hF 1 (by decide)) K_f_X8_30 dX8_parse_9 ?_
    refine lv_icmp_le (tgt := 25) hx hb dX8_parse_12 (by decide) (fun c2 => ?_) (fun c2 => ?_)
    · have h := h.1 c2
      refine lv_aload_n hx hb dX8_parse_25 rfl (lv_at hl 0 rfl) ?_
      refine g8_0 C hw (hF 0 (by decide)) K_f_X8_12 dX8_parse_26 ?_
      refine lv_iload_n hx hb dX8_parse_29 rfl (lv_at hl 1 rfl) ?_
      refine done_i hw (my_runV (As := [.int p1]) (rest := []) C hw 1 1 (hF 1 (by decide)) rfl rfl (mt_X1_readGame l C.2.2.2.2.2.2.2 hF _ _ h) K_m_X8_45 K_i_X1_readGame K_v_X1_readGame K_n_X1 K_c_X1_readGame hy_X1_readGame ⟨Nat.le_of_ble_eq_true rfl, Nat.le_of_ble_eq_true rfl⟩ hl.1 rfl (Nat.le_of_ble_eq_true rfl) dX8_parse_30 ⟨Nat.le_of_ble_eq_true rfl, Nat.le_of_ble_eq_true rfl⟩) (fun r1 w1 H locs h hw => ?_)
      refine lv_istore_n (lv' := [(2, .int r1), (0, .ref (eA E 0)), (1, .int p1)]) hx hb dX8_parse_33 rfl hl (by decide) rfl (fun ls hl => ?_)
      refine lv_iload_n hx hb dX8_parse_34 rfl (lv_at hl 0 rfl) ?_
      refine lv_if_eq (tgt := 43) hx hb dX8_parse_35 (by decide) (fun c3 => ?_) (fun c3 => ?_)
      · have h := h.1 c3
        refine lv_aload_n hx hb dX8_parse_43 rfl (lv_at hl 1 rfl) ?_
        refine g8_1 C hw (hF 0 (by decide)) K_f_X8_19 dX8_parse_44 ?_
        refine lv_aload_n hx hb dX8_parse_47 rfl (lv_at hl 1 rfl) ?_
        refine g8_0 C hw (hF 0 (by decide)) K_f_X8_12 dX8_parse_48 ?_
        refine g1_0 C hw (hF 1 (by decide)) K_f_X8_49 dX8_parse_51 ?_
        refine done_v hw (my_runV (As := [.ref (eA E ((27 + 7 * 0)))]) (rest := []) C hw 3 0 (hF 3 (by decide)) rfl rfl (mt_X0_begin l C.2.2.2.2.2.2.2 hF 0 (show 0 < 2 by decide) _ h) K_m_X8_53 K_i_X0_begin K_v_X0_begin K_n_X0 K_c_X0_begin hy_X0_begin ⟨Nat.le_of_ble_eq_true rfl, Nat.le_of_ble_eq_true rfl⟩ hl.1 rfl (Nat.le_of_ble_eq_true rfl) dX8_parse_54 ⟨Nat.le_of_ble_eq_true rfl, Nat.le_of_ble_eq_true rfl⟩) (fun w2 H locs h hw => ?_)
        refine lv_aload_n hx hb dX8_parse_57 rfl (lv_at hl 1 rfl) ?_
        refine g8_2 C hw (hF 0 (by decide)) K_f_X8_26 dX8_parse_58 ?_
        refine done_v hw (my_runV (As := []) (rest := []) C hw 11 2 (hF 11 (by decide)) rfl rfl (mt_X2_forgetAll l C.2.2.2.2.2.2.2 hF _ h) K_m_X8_57 K_i_X2_forgetAll K_v_X2_forgetAll K_n_X2 K_c_X2_forgetAll hy_X2_forgetAll ⟨Nat.le_of_ble_eq_true rfl, Nat.le_of_ble_eq_true rfl⟩ hl.1 rfl (Nat.le_of_ble_eq_true rfl) dX8_parse_61 ⟨Nat.le_of_ble_eq_true rfl, Nat.le_of_ble_eq_true rfl⟩) (fun w3 H locs h hw => ?_)
        refine lv_aload_n hx hb dX8_parse_64 rfl (lv_at hl 1 rfl) ?_
        refine g8_1 C hw (hF 0 (by decide)) K_f_X8_19 dX8_parse_65 ?_
        refine g0_0 C hw (hF 3 (by decide)) K_f_X8_60 dX8_parse_68 ?_
        refine g6_6 C hw 1 (show 1 < 2 by decide) (hF _ (by have := (show 1 < 2 by decide); omega)) K_f_X8_63 dX8_parse_71 ?_
        rw [hQ]
        refine vx_ret ?_
        refine W.widen (k := 1) (n := 6) (by decide) (by decide) ?_
        exact ret_i C hr hlk hw h dX8_parse_74
      · have h := h.2 c3
        refine lv_bipush (v := (-2)) hx hb dX8_parse_38 (by decide) ?_
        refine lv_iload_n hx hb dX8_parse_40 rfl (lv_at hl 0 rfl) ?_
        refine lv_isub hx hb dX8_parse_41 ?_
        rw [hQ]
        refine vx_ret ?_
        refine W.widen (k := 1) (n := 6) (by decide) (by decide) ?_
        exact ret_i C hr hlk hw h dX8_parse_42
    · have h := h.2 c2
      rw [hQ]
      exact r_throw (i := 0) 0 (by decide) C hT hlk hno hw hl.1 h K_k_X8_38 K_n_o_IllegalArgumentException (by decide +kernel) dX8_parse_15 dX8_parse_18 dX8_parse_19 dX8_parse_21 dX8_parse_24 ⟨Nat.le_of_ble_eq_true rfl, Nat.le_of_ble_eq_true rfl, Nat.le_of_ble_eq_true rfl, Nat.le_of_ble_eq_true rfl⟩ ⟨Nat.le_of_ble_eq_true rfl, Nat.le_of_ble_eq_true rfl⟩
theorem hy_X8_size : yX8_size.cls ≠ "java/lang/invoke/MethodHandle" ∧ yX8_size.cls ≠ "java/lang/invoke/VarHandle" ∧ (parseMethodDescriptor yX8_size.desc).map (fun d => d.parameters.length) = some 1 := by decide +kernel
def wp_X8_size (w : Wd) (p1 : Int32) (Post : Int32 → Wd → Prop) (Ex : Nat → Wd → Prop) : Prop :=
  wp_X8_checkWhat w p1 5 (fun w1 => (p1 = nI 0 → (Post (gI w1 (27 + 7 * 1) 6) w1)) ∧ (¬ p1 = nI 0 → ((p1 = nI 1 → (Post (gI w1 (53 + 8 * 0) 7) w1)) ∧ (¬ p1 = nI 1 → ((p1 = nI 2 → (Post (gI w1 (53 + 8 * 0) 8) w1)) ∧ (¬ p1 = nI 2 → ((p1 = nI 3 → (wp_X0_isOver w1 (fun r1 w2 => (r1 = 0 → (Post 0 w2)) ∧ (¬ r1 = 0 → (Post 1 w2))))) ∧ (¬ p1 = nI 3 → ((p1 = nI 4 → (wp_X0_isOver w1 (fun r2 w3 => (r2 = 0 → (Post ((-1)) w3)) ∧ (¬ r2 = 0 → (Post (1 - (gI w3 (53 + 8 * 0) 7)) w3))))) ∧ (¬ p1 = nI 4 → (Post (gI w1 11 3) w1))))))))))) (fun ke1 w1 => Ex ke1 w1)
set_option maxHeartbeats 4000000 in
set_option maxRecDepth 100000 in
theorem mt_X8_size (l : Launch) (hT : l.stackTraces = false) {E : En} (hI : Inj E) (hF : ∀ o, (o < 15 ∨ 27 ≤ o ∧ o < 157) → o ∈ eL E) (w : Wd) (p1 : Int32) {Post : Int32 → Wd → Prop} {Ex : Nat → Wd → Prop} (h : wp_X8_size w p1 Post Ex) : MXI l E yX8_size cX8_size 2 (some .int) 7 103 1 6 [.ref (eA E 0), .int p1] w Post Ex := by
  refine MX.intro hI (by decide +kernel) (Nat.le_of_ble_eq_true rfl) ?_
  intro p e s m args below meth c Q C hr hlk hno hQ hw ls hl
  have hx := C.1
  have hb := C.2.1
  have hl : lv_has ls 2 [(0, .ref (eA E 0)), (1, .int p1)] := hl
  unfold wp_X8_size at h
  refine lv_iload_n hx hb dX8_size_0 rfl (lv_at hl 1 rfl) ?_
  refine lv_iconst (v := 5) hx hb dX8_size_1 (by decide) ?_
  refine done_xv hw (my_runSX (As := [.int p1, .int 5]) (rest := []) C hw (mt_X8_checkWhat l hT C.2.2.2.2.2.2.2 hF _ _ _ h) K_m_X8_68 K_s_X8_checkWhat K_n_X8 K_c_X8_checkWhat hy_X8_checkWhat ⟨Nat.le_of_ble_eq_true rfl, Nat.le_of_ble_eq_true rfl⟩ hl.1 rfl (Nat.le_of_ble_eq_true rfl) dX8_size_2 ⟨Nat.le_of_ble_eq_true rfl, Nat.le_of_ble_eq_true rfl⟩) (fun ke1 q ce1 w1 H locs hk3 h hw hq hv hcl => ?_) (fun w1 H locs h hw => ?_)
  · rw [hQ]
    exact r_out hlk hno hw hk3 h hq hv hcl ⟨Nat.le_of_ble_eq_true rfl, Nat.le_of_ble_eq_true rfl⟩
  refine lv_iload_n hx hb dX8_size_5 rfl (lv_at hl 1 rfl) ?_
  by_cases c1 : p1 = nI 0
  · have h := h.1 c1
    obtain ⟨s1, s2, s3⟩ := sw_in (hi := 4) c1 (by decide) (by decide)
    refine lv_tableIn (tgt := 40) hx hb dX8_size_6 s1 s2 (by rw [s3]; rfl) (by decide) ?_
    refine lv_aload_n hx hb dX8_size_40 rfl (lv_at hl 0 rfl) ?_
    refine g8_1 C hw (hF 0 (by decide)) K_f_X8_19 dX8_size_41 ?_
    refine g0_0 C hw (hF 3 (by decide)) K_f_X8_60 dX8_size_44 ?_
    refine g6_6 C hw 1 (show 1 < 2 by decide) (hF _ (by have := (show 1 < 2 by decide); omega)) K_f_X8_63 dX8_size_47 ?_
    rw [hQ]
    refine vx_ret ?_
    refine W.widen (k := 1) (n := 6) (by decide) (by decide) ?_
    exact ret_i C hr hlk hw h dX8_size_50
  · have h := h.2 c1
    by_cases c2 : p1 = nI 1
    · have h := h.1 c2
      obtain ⟨s1, s2, s3⟩ := sw_in (hi := 4) c2 (by decide) (by decide)
      refine lv_tableIn (tgt := 51) hx hb dX8_size_6 s1 s2 (by rw [s3]; rfl) (by decide) ?_
      refine lv_aload_n hx hb dX8_size_51 rfl (lv_at hl 0 rfl) ?_
      refine g8_1 C hw (hF 0 (by decide)) K_f_X8_19 dX8_size_52 ?_
      refine g0_1 C hw (hF 3 (by decide)) K_f_X8_72 dX8_size_55 ?_
      refine g7_7 C hw 0 (show 0 < 13 by decide) (hF _ (by have := (show 0 < 13 by decide); omega)) K_f_X8_76 dX8_size_58 ?_
      rw [hQ]
      refine vx_ret ?_
      refine W.widen (k := 1) (n := 6) (by decide) (by decide) ?_
      exact ret_i C hr hlk hw h dX8_size_61
    · have h := h.2 c2
      by_cases c3 : p1 = nI 2
      · have h := h.1 c3
        obtain ⟨s1, s2, s3⟩ := sw_in (hi := 4) c3 (by decide) (by decide)
        refine lv_tableIn (tgt := 62) hx hb dX8_size_6 s1 s2 (by rw [s3]; rfl) (by decide) ?_
        refine lv_aload_n hx hb dX8_size_62 rfl (lv_at hl 0 rfl) ?_
        refine g8_1 C hw (hF 0 (by decide)) K_f_X8_19 dX8_size_63 ?_
        refine g0_1 C hw (hF 3 (by decide)) K_f_X8_72 dX8_size_66 ?_
        refine g7_8 C hw 0 (show 0 < 13 by decide) (hF _ (by have := (show 0 < 13 by decide); omega)) K_f_X8_81 dX8_size_69 ?_
        rw [hQ]
        refine vx_ret ?_
        refine W.widen (k := 1) (n := 6) (by decide) (by decide) ?_
        exact ret_i C hr hlk hw h dX8_size_72
      · have h := h.2 c3
        by_cases c4 : p1 = nI 3
        · have h := h.1 c4
          obtain ⟨s1, s2, s3⟩ := sw_in (hi := 4) c4 (by decide) (by decide)
          refine lv_tableIn (tgt := 73) hx hb dX8_size_6 s1 s2 (by rw [s3]; rfl) (by decide) ?_
          refine lv_aload_n hx hb dX8_size_73 rfl (lv_at hl 0 rfl) ?_
          refine g8_1 C hw (hF 0 (by decide)) K_f_X8_19 dX8_size_74 ?_
          refine done_i hw (my_runV (As := []) (rest := []) C hw 3 0 (hF 3 (by decide)) rfl rfl (mt_X0_isOver l C.2.2.2.2.2.2.2 hF _ h) K_m_X8_84 K_i_X0_isOver K_v_X0_isOver K_n_X0 K_c_X0_isOver hy_X0_isOver ⟨Nat.le_of_ble_eq_true rfl, Nat.le_of_ble_eq_true rfl⟩ hl.1 rfl (Nat.le_of_ble_eq_true rfl) dX8_size_77 ⟨Nat.le_of_ble_eq_true rfl, Nat.le_of_ble_eq_true rfl⟩) (fun r1 w2 H locs h hw => ?_)
          refine lv_if_eq (tgt := 87) hx hb dX8_size_80 (by decide) (fun c5 => ?_) (fun c5 => ?_)
          · have h := h.1 c5
            refine lv_iconst (v := 0) hx hb dX8_size_87 (by decide) ?_
            rw [hQ]
            refine vx_ret ?_
            refine W.widen (k := 1) (n := 6) (by decide) (by decide) ?_
            exact ret_i C hr hlk hw h dX8_size_88
          · have h := h.2 c5
            refine lv_iconst (v := 1) hx hb dX8_size_83 (by decide) ?_
            refine lv_goto (tgt := 88) hx hb dX8_size_84 (by decide) ?_
            rw [hQ]
            refine vx_ret ?_
            refine W.widen (k := 1) (n := 6) (by decide) (by decide) ?_
            exact ret_i C hr hlk hw h dX8_size_88
        · have h := h.2 c4
          by_cases c6 : p1 = nI 4
          · have h := h.1 c6
            obtain ⟨s1, s2, s3⟩ := sw_in (hi := 4) c6 (by decide) (by decide)
            refine lv_tableIn (tgt := 89) hx hb dX8_size_6 s1 s2 (by rw [s3]; rfl) (by decide) ?_
            refine lv_aload_n hx hb dX8_size_89 rfl (lv_at hl 0 rfl) ?_
            refine g8_1 C hw (hF 0 (by decide)) K_f_X8_19 dX8_size_90 ?_
            refine done_i hw (my_runV (As := []) (rest := []) C hw 3 0 (hF 3 (by decide)) rfl rfl (mt_X0_isOver l C.2.2.2.2.2.2.2 hF _ h) K_m_X8_84 K_i_X0_isOver K_v_X0_isOver K_n_X0 K_c_X0_isOver hy_X0_isOver ⟨Nat.le_of_ble_eq_true rfl, Nat.le_of_ble_eq_true rfl⟩ hl.1 rfl (Nat.le_of_ble_eq_true rfl) dX8_size_93 ⟨Nat.le_of_ble_eq_true rfl, Nat.le_of_ble_eq_true rfl⟩) (fun r2 w3 H locs h hw => ?_)
            refine lv_if_eq (tgt := 114) hx hb dX8_size_96 (by decide) (fun c7 => ?_) (fun c7 => ?_)
            · have h := h.1 c7
              refine lv_iconst (v := (-1)) hx hb dX8_size_114 (by decide) ?_
              rw [hQ]
              refine vx_ret ?_
              refine W.widen (k := 1) (n := 6) (by decide) (by decide) ?_
              exact ret_i C hr hlk hw h dX8_size_115
            · have h := h.2 c7
              refine lv_iconst (v := 1) hx hb dX8_size_99 (by decide) ?_
              refine lv_aload_n hx hb dX8_size_100 rfl (lv_at hl 0 rfl) ?_
              refine g8_1 C hw (hF 0 (by decide)) K_f_X8_19 dX8_size_101 ?_
              refine g0_1 C hw (hF 3 (by decide)) K_f_X8_72 dX8_size_104 ?_
              refine g7_7 C hw 0 (show 0 < 13 by decide) (hF _ (by have := (show 0 < 13 by decide); omega)) K_f_X8_76 dX8_size_107 ?_
              refine lv_isub hx hb dX8_size_110 ?_
              refine lv_goto (tgt := 115) hx hb dX8_size_111 (by decide) ?_
              rw [hQ]
              refine vx_ret ?_
              refine W.widen (k := 1) (n := 6) (by decide) (by decide) ?_
              exact ret_i C hr hlk hw h dX8_size_115
          · have h := h.2 c6
            refine lv_tableOut (tgt := 116) hx hb dX8_size_6 (sw_out (n := 5) (by decide) (fun j hj => by rcases (show j = 0 ∨ j = 1 ∨ j = 2 ∨ j = 3 ∨ j = 4 by omega) with rfl | rfl | rfl | rfl | rfl <;> assumption) (by decide)) (by decide) ?_
            refine lv_aload_n hx hb dX8_size_116 rfl (lv_at hl 0 rfl) ?_
            refine g8_2 C hw (hF 0 (by decide)) K_f_X8_26 dX8_size_117 ?_
            refine g2_3 C hw (hF 11 (by decide)) K_f_X8_88 dX8_size_120 ?_
            rw [hQ]
            refine vx_ret ?_
            refine W.widen (k := 1) (n := 6) (by decide) (by decide) ?_
            exact ret_i C hr hlk hw h dX8_size_123
theorem hy_X8_ladder : yX8_ladder.cls ≠ "java/lang/invoke/MethodHandle" ∧ yX8_ladder.cls ≠ "java/lang/invoke/VarHandle" ∧ (parseMethodDescriptor yX8_ladder.desc).map (fun d => d.parameters.length) = some 2 := by decide +kernel
def wp_X8_ladder (w : Wd) (p1 : Int32) (p2 : Int32) (Post : Int32 → Wd → Prop) (Ex : Nat → Wd → Prop) : Prop :=
  wp_X8_checkLadder w p1 (fun w1 => wp_X8_checkWhat w1 p2 5 (fun w2 => (p2 = nI 0 → (vp_in p1 6 ∧ (Post (gA w2 (27 + 7 * 1 + 1) p1.toNatClampNeg) w2))) ∧ (¬ p2 = nI 0 → ((p2 = nI 1 → (vp_in p1 6 ∧ (Post (gA w2 (27 + 7 * 1 + 2) p1.toNatClampNeg) w2))) ∧ (¬ p2 = nI 1 → ((p2 = nI 2 → (vp_in p1 6 ∧ (vp_in p1 6 ∧ (wp_J6_bitCount_0f7a4 w2 (gA w2 (53 + 8 * 0 + 1) p1.toNatClampNeg) (fun r1 w3 => Post ((gA w2 (27 + 7 * 1 + 2) p1.toNatClampNeg) - r1) w3))))) ∧ (¬ p2 = nI 2 → ((p2 = nI 3 → (wp_X0_valueNow w2 p1 (fun r2 w4 => Post r2 w4))) ∧ (¬ p2 = nI 3 → ((p2 = nI 4 → (vp_in p1 6 ∧ (Post (gA w2 (53 + 8 * 0 + 3) p1.toNatClampNeg) w2))) ∧ (¬ p2 = nI 4 → (vp_in p1 6 ∧ (Post (gA w2 (53 + 8 * 0 + 4) p1.toNatClampNeg) w2)))))))))))) (fun ke2 w2 => Ex ke2 w2)) (fun ke1 w1 => Ex ke1 w1)
set_option maxHeartbeats 4000000 in
set_option maxRecDepth 100000 in
theorem mt_X8_ladder (l : Launch) (hT : l.stackTraces = false) {E : En} (hI : Inj E) (hF : ∀ o, (o < 15 ∨ 27 ≤ o ∧ o < 157) → o ∈ eL E) (w : Wd) (p1 : Int32) (p2 : Int32) {Post : Int32 → Wd → Prop} {Ex : Nat → Wd → Prop} (h : wp_X8_ladder w p1 p2 Post Ex) : MXI l E yX8_ladder cX8_ladder 3 (some .int) 7 141 2 12 [.ref (eA E 0), .int p1, .int p2] w Post Ex := by
  refine MX.intro hI (by decide +kernel) (Nat.le_of_ble_eq_true rfl) ?_
  intro p e s m args below meth c Q C hr hlk hno hQ hw ls hl
  have hx := C.1
  have hb := C.2.1
  have hl : lv_has ls 3 [(0, .ref (eA E 0)), (1, .int p1), (2, .int p2)] := hl
  unfold wp_X8_ladder at h
  refine lv_aload_n hx hb dX8_ladder_0 rfl (lv_at hl 0 rfl) ?_
  refine lv_iload_n hx hb dX8_ladder_1 rfl (lv_at hl 1 rfl) ?_
  refine done_xv hw (my_runVX (As := [.int p1]) (rest := []) C hw 0 8 (hF 0 (by decide)) rfl rfl (mt_X8_checkLadder l hT C.2.2.2.2.2.2.2 hF _ _ h) K_m_X8_91 K_i_X8_checkLadder K_v_X8_checkLadder K_n_X8 K_c_X8_checkLadder hy_X8_checkLadder ⟨Nat.le_of_ble_eq_true rfl, Nat.le_of_ble_eq_true rfl⟩ hl.1 rfl (Nat.le_of_ble_eq_true rfl) dX8_ladder_2 ⟨Nat.le_of_ble_eq_true rfl, Nat.le_of_ble_eq_true rfl⟩) (fun ke1 q ce1 w1 H locs hk3 h hw hq hv hcl => ?_) (fun w1 H locs h hw => ?_)
  · rw [hQ]
    exact r_out hlk hno hw hk3 h hq hv hcl ⟨Nat.le_of_ble_eq_true rfl, Nat.le_of_ble_eq_true rfl⟩
  refine lv_iload_n hx hb dX8_ladder_5 rfl (lv_at hl 2 rfl) ?_
  refine lv_iconst (v := 5) hx hb dX8_ladder_6 (by decide) ?_
  refine done_xv hw (my_runSX (As := [.int p2, .int 5]) (rest := []) C hw (mt_X8_checkWhat l hT C.2.2.2.2.2.2.2 hF _ _ _ h) K_m_X8_68 K_s_X8_checkWhat K_n_X8 K_c_X8_checkWhat hy_X8_checkWhat ⟨Nat.le_of_ble_eq_true rfl, Nat.le_of_ble_eq_true rfl⟩ hl.1 rfl (Nat.le_of_ble_eq_true rfl) dX8_ladder_7 ⟨Nat.le_of_ble_eq_true rfl, Nat.le_of_ble_eq_true rfl⟩) (fun ke2 q ce1 w2 H locs hk3 h hw hq hv hcl => ?_) (fun w2 H locs h hw => ?_)
  · rw [hQ]
    exact r_out hlk hno hw hk3 h hq hv hcl ⟨Nat.le_of_ble_eq_true rfl, Nat.le_of_ble_eq_true rfl⟩
  refine lv_iload_n hx hb dX8_ladder_10 rfl (lv_at hl 2 rfl) ?_
  by_cases c1 : p2 = nI 0
  · have h := h.1 c1
    obtain ⟨s1, s2, s3⟩ := sw_in (hi := 4) c1 (by decide) (by decide)
    refine lv_tableIn (tgt := 44) hx hb dX8_ladder_11 s1 s2 (by rw [s3]; rfl) (by decide) ?_
    refine lv_aload_n hx hb dX8_ladder_44 rfl (lv_at hl 0 rfl) ?_
    refine g8_1 C hw (hF 0 (by decide)) K_f_X8_19 dX8_ladder_45 ?_
    refine g0_0 C hw (hF 3 (by decide)) K_f_X8_60 dX8_ladder_48 ?_
    refine g6_0 C hw 1 (show 1 < 2 by decide) (hF _ (by have := (show 1 < 2 by decide); omega)) K_f_X8_94 dX8_ladder_51 ?_
    refine lv_iload_n hx hb dX8_ladder_54 rfl (lv_at hl 1 rfl) ?_
    obtain ⟨hi1, h⟩ := h
    refine r_iald C hw (27 + 7 * 1 + 1) 6 (hF _ (by have := (show 1 < 2 by decide); omega)) (ce_sea 1 (show 1 < 2 by decide) (by decide) (by decide)) hi1 dX8_ladder_55 ?_
    rw [hQ]
    refine vx_ret ?_
    refine W.widen (k := 2) (n := 12) (by decide) (by decide) ?_
    exact ret_i C hr hlk hw h dX8_ladder_56
  · have h := h.2 c1
    by_cases c2 : p2 = nI 1
    · have h := h.1 c2
      obtain ⟨s1, s2, s3⟩ := sw_in (hi := 4) c2 (by decide) (by decide)
      refine lv_tableIn (tgt := 57) hx hb dX8_ladder_11 s1 s2 (by rw [s3]; rfl) (by decide) ?_
      refine lv_aload_n hx hb dX8_ladder_57 rfl (lv_at hl 0 rfl) ?_
      refine g8_1 C hw (hF 0 (by decide)) K_f_X8_19 dX8_ladder_58 ?_
      refine g0_0 C hw (hF 3 (by decide)) K_f_X8_60 dX8_ladder_61 ?_
      refine g6_1 C hw 1 (show 1 < 2 by decide) (hF _ (by have := (show 1 < 2 by decide); omega)) K_f_X8_98 dX8_ladder_64 ?_
      refine lv_iload_n hx hb dX8_ladder_67 rfl (lv_at hl 1 rfl) ?_
      obtain ⟨hi2, h⟩ := h
      refine r_iald C hw (27 + 7 * 1 + 2) 6 (hF _ (by have := (show 1 < 2 by decide); omega)) (ce_sea 2 (show 1 < 2 by decide) (by decide) (by decide)) hi2 dX8_ladder_68 ?_
      rw [hQ]
      refine vx_ret ?_
      refine W.widen (k := 2) (n := 12) (by decide) (by decide) ?_
      exact ret_i C hr hlk hw h dX8_ladder_69
    · have h := h.2 c2
      by_cases c3 : p2 = nI 2
      · have h := h.1 c3
        obtain ⟨s1, s2, s3⟩ := sw_in (hi := 4) c3 (by decide) (by decide)
        refine lv_tableIn (tgt := 70) hx hb dX8_ladder_11 s1 s2 (by rw [s3]; rfl) (by decide) ?_
        refine lv_aload_n hx hb dX8_ladder_70 rfl (lv_at hl 0 rfl) ?_
        refine g8_1 C hw (hF 0 (by decide)) K_f_X8_19 dX8_ladder_71 ?_
        refine g0_0 C hw (hF 3 (by decide)) K_f_X8_60 dX8_ladder_74 ?_
        refine g6_1 C hw 1 (show 1 < 2 by decide) (hF _ (by have := (show 1 < 2 by decide); omega)) K_f_X8_98 dX8_ladder_77 ?_
        refine lv_iload_n hx hb dX8_ladder_80 rfl (lv_at hl 1 rfl) ?_
        obtain ⟨hi3, h⟩ := h
        refine r_iald C hw (27 + 7 * 1 + 2) 6 (hF _ (by have := (show 1 < 2 by decide); omega)) (ce_sea 2 (show 1 < 2 by decide) (by decide) (by decide)) hi3 dX8_ladder_81 ?_
        refine lv_aload_n hx hb dX8_ladder_82 rfl (lv_at hl 0 rfl) ?_
        refine g8_1 C hw (hF 0 (by decide)) K_f_X8_19 dX8_ladder_83 ?_
        refine g0_1 C hw (hF 3 (by decide)) K_f_X8_72 dX8_ladder_86 ?_
        refine g7_0 C hw 0 (show 0 < 13 by decide) (hF _ (by have := (show 0 < 13 by decide); omega)) K_f_X8_101 dX8_ladder_89 ?_
        refine lv_iload_n hx hb dX8_ladder_92 rfl (lv_at hl 1 rfl) ?_
        obtain ⟨hi4, h⟩ := h
        refine r_iald C hw (53 + 8 * 0 + 1) 6 (hF _ (by have := (show 0 < 13 by decide); omega)) (ce_sta 1 (show 0 < 13 by decide) (by decide) (by decide)) hi4 dX8_ladder_93 ?_
        refine done_i hw (my_runS (As := [.int (gA w2 (53 + 8 * 0 + 1) p1.toNatClampNeg)]) (rest := [.int (gA w2 (27 + 7 * 1 + 2) p1.toNatClampNeg)]) C hw (mt_J6_bitCount_0f7a4 l C.2.2.2.2.2.2.2 _ _ h) K_m_X8_104 K_s_J6_bitCount_0f7a4 K_n_J6 K_c_J6_bitCount_0f7a4 hy_J6_bitCount_0f7a4 ⟨Nat.le_of_ble_eq_true rfl, Nat.le_of_ble_eq_true rfl⟩ hl.1 rfl (Nat.le_of_ble_eq_true rfl) dX8_ladder_94 ⟨Nat.le_of_ble_eq_true rfl, Nat.le_of_ble_eq_true rfl⟩) (fun r1 w3 H locs h hw => ?_)
        refine lv_isub hx hb dX8_ladder_97 ?_
        rw [hQ]
        refine vx_ret ?_
        refine W.widen (k := 2) (n := 12) (by decide) (by decide) ?_
        exact ret_i C hr hlk hw h dX8_ladder_98
      · have h := h.2 c3
        by_cases c4 : p2 = nI 3
        · have h := h.1 c4
          obtain ⟨s1, s2, s3⟩ := sw_in (hi := 4) c4 (by decide) (by decide)
          refine lv_tableIn (tgt := 99) hx hb dX8_ladder_11 s1 s2 (by rw [s3]; rfl) (by decide) ?_
          refine lv_aload_n hx hb dX8_ladder_99 rfl (lv_at hl 0 rfl) ?_
          refine g8_1 C hw (hF 0 (by decide)) K_f_X8_19 dX8_ladder_100 ?_
          refine lv_iload_n hx hb dX8_ladder_103 rfl (lv_at hl 1 rfl) ?_
          refine done_i hw (my_runV (As := [.int p1]) (rest := []) C hw 3 0 (hF 3 (by decide)) rfl rfl (mt_X0_valueNow l C.2.2.2.2.2.2.2 hF _ _ h) K_m_X8_109 K_i_X0_valueNow K_v_X0_valueNow K_n_X0 K_c_X0_valueNow hy_X0_valueNow ⟨Nat.le_of_ble_eq_true rfl, Nat.le_of_ble_eq_true rfl⟩ hl.1 rfl (Nat.le_of_ble_eq_true rfl) dX8_ladder_104 ⟨Nat.le_of_ble_eq_true rfl, Nat.le_of_ble_eq_true rfl⟩) (fun r2 w4 H locs h hw => ?_)
          rw [hQ]
          refine vx_ret ?_
          refine W.widen (k := 2) (n := 12) (by decide) (by decide) ?_
          exact ret_i C hr hlk hw h dX8_ladder_107
        · have h := h.2 c4
          by_cases c5 : p2 = nI 4
          · have h := h.1 c5
            obtain ⟨s1, s2, s3⟩ := sw_in (hi := 4) c5 (by decide) (by decide)
            refine lv_tableIn (tgt := 108) hx hb dX8_ladder_11 s1 s2 (by rw [s3]; rfl) (by decide) ?_
            refine lv_aload_n hx hb dX8_ladder_108 rfl (lv_at hl 0 rfl) ?_
            refine g8_1 C hw (hF 0 (by decide)) K_f_X8_19 dX8_ladder_109 ?_
            refine g0_1 C hw (hF 3 (by decide)) K_f_X8_72 dX8_ladder_112 ?_
            refine g7_2 C hw 0 (show 0 < 13 by decide) (hF _ (by have := (show 0 < 13 by decide); omega)) K_f_X8_112 dX8_ladder_115 ?_
            refine lv_iload_n hx hb dX8_ladder_118 rfl (lv_at hl 1 rfl) ?_
            obtain ⟨hi5, h⟩ := h
            refine r_iald C hw (53 + 8 * 0 + 3) 6 (hF _ (by have := (show 0 < 13 by decide); omega)) (ce_sta 3 (show 0 < 13 by decide) (by decide) (by decide)) hi5 dX8_ladder_119 ?_
            rw [hQ]
            refine vx_ret ?_
            refine W.widen (k := 2) (n := 12) (by decide) (by decide) ?_
            exact ret_i C hr hlk hw h dX8_ladder_120
          · have h := h.2 c5
            refine lv_tableOut (tgt := 121) hx hb dX8_ladder_11 (sw_out (n := 5) (by decide) (fun j hj => by rcases (show j = 0 ∨ j = 1 ∨ j = 2 ∨ j = 3 ∨ j = 4 by omega) with rfl | rfl | rfl | rfl | rfl <;> assumption) (by decide)) (by decide) ?_
            refine lv_aload_n hx hb dX8_ladder_121 rfl (lv_at hl 0 rfl) ?_
            refine g8_1 C hw (hF 0 (by decide)) K_f_X8_19 dX8_ladder_122 ?_
            refine g0_1 C hw (hF 3 (by decide)) K_f_X8_72 dX8_ladder_125 ?_
            refine g7_3 C hw 0 (show 0 < 13 by decide) (hF _ (by have := (show 0 < 13 by decide); omega)) K_f_X8_115 dX8_ladder_128 ?_
            refine lv_iload_n hx hb dX8_ladder_131 rfl (lv_at hl 1 rfl) ?_
            obtain ⟨hi6, h⟩ := h
            refine r_iald C hw (53 + 8 * 0 + 4) 6 (hF _ (by have := (show 0 < 13 by decide); omega)) (ce_sta 4 (show 0 < 13 by decide) (by decide) (by decide)) hi6 dX8_ladder_132 ?_
            rw [hQ]
            refine vx_ret ?_
            refine W.widen (k := 2) (n := 12) (by decide) (by decide) ?_
            exact ret_i C hr hlk hw h dX8_ladder_133
theorem hy_X8_set : yX8_set.cls ≠ "java/lang/invoke/MethodHandle" ∧ yX8_set.cls ≠ "java/lang/invoke/VarHandle" ∧ (parseMethodDescriptor yX8_set.desc).map (fun d => d.parameters.length) = some 2 := by decide +kernel
def wp_X8_set (w : Wd) (p1 : Int32) (p2 : Int32) (Post : Int32 → Wd → Prop) (Ex : Nat → Wd → Prop) : Prop :=
  wp_X8_checkLadder w p1 (fun w1 => wp_X8_checkWhat w1 p2 2 (fun w2 => (p2 = nI 0 → (vp_in p1 6 ∧ (Post (gA w2 (53 + 8 * 0 + 1) p1.toNatClampNeg) w2))) ∧ (¬ p2 = nI 0 → ((p2 = nI 1 → (vp_in p1 6 ∧ (Post (gA w2 (53 + 8 * 0 + 2) p1.toNatClampNeg) w2))) ∧ (¬ p2 = nI 1 → (vp_in p1 6 ∧ (Post (gA w2 (27 + 7 * 1 + 3) p1.toNatClampNeg) w2)))))) (fun ke2 w2 => Ex ke2 w2)) (fun ke1 w1 => Ex ke1 w1)
set_option maxHeartbeats 4000000 in
set_option maxRecDepth 100000 in
theorem mt_X8_set (l : Launch) (hT : l.stackTraces = false) {E : En} (hI : Inj E) (hF : ∀ o, (o < 15 ∨ 27 ≤ o ∧ o < 157) → o ∈ eL E) (w : Wd) (p1 : Int32) (p2 : Int32) {Post : Int32 → Wd → Prop} {Ex : Nat → Wd → Prop} (h : wp_X8_set w p1 p2 Post Ex) : MXI l E yX8_set cX8_set 3 (some .int) 7 103 2 12 [.ref (eA E 0), .int p1, .int p2] w Post Ex := by
  refine MX.intro hI (by decide +kernel) (Nat.le_of_ble_eq_true rfl) ?_
  intro p e s m args below meth c Q C hr hlk hno hQ hw ls hl
  have hx := C.1
  have hb := C.2.1
  have hl : lv_has ls 3 [(0, .ref (eA E 0)), (1, .int p1), (2, .int p2)] := hl
  unfold wp_X8_set at h
  refine lv_aload_n hx hb dX8_set_0 rfl (lv_at hl 0 rfl) ?_
  refine lv_iload_n hx hb dX8_set_1 rfl (lv_at hl 1 rfl) ?_
  refine done_xv hw (my_runVX (As := [.int p1]) (rest := []) C hw 0 8 (hF 0 (by decide)) rfl rfl (mt_X8_checkLadder l hT C.2.2.2.2.2.2.2 hF _ _ h) K_m_X8_91 K_i_X8_checkLadder K_v_X8_checkLadder K_n_X8 K_c_X8_checkLadder hy_X8_checkLadder ⟨Nat.le_of_ble_eq_true rfl, Nat.le_of_ble_eq_true rfl⟩ hl.1 rfl (Nat.le_of_ble_eq_true rfl) dX8_set_2 ⟨Nat.le_of_ble_eq_true rfl, Nat.le_of_ble_eq_true rfl⟩) (fun ke1 q ce1 w1 H locs hk3 h hw hq hv hcl => ?_) (fun w1 H locs h hw => ?_)
  · rw [hQ]
    exact r_out hlk hno hw hk3 h hq hv hcl ⟨Nat.le_of_ble_eq_true rfl, Nat.le_of_ble_eq_true rfl⟩
  refine lv_iload_n hx hb dX8_set_5 rfl (lv_at hl 2 rfl) ?_
  refine lv_iconst (v := 2) hx hb dX8_set_6 (by decide) ?_
  refine done_xv hw (my_runSX (As := [.int p2, .int 2]) (rest := []) C hw (mt_X8_checkWhat l hT C.2.2.2.2.2.2.2 hF _ _ _ h) K_m_X8_68 K_s_X8_checkWhat K_n_X8 K_c_X8_checkWhat hy_X8_checkWhat ⟨Nat.le_of_ble_eq_true rfl, Nat.le_of_ble_eq_true rfl⟩ hl.1 rfl (Nat.le_of_ble_eq_true rfl) dX8_set_7 ⟨Nat.le_of_ble_eq_true rfl, Nat.le_of_ble_eq_true rfl⟩) (fun ke2 q ce1 w2 H locs hk3 h hw hq hv hcl => ?_) (fun w2 H locs h hw => ?_)
  · rw [hQ]
    exact r_out hlk hno hw hk3 h hq hv hcl ⟨Nat.le_of_ble_eq_true rfl, Nat.le_of_ble_eq_true rfl⟩
  refine lv_iload_n hx hb dX8_set_10 rfl (lv_at hl 2 rfl) ?_
  by_cases c1 : p2 = nI 0
  · have h := h.1 c1
    refine lv_lookup (tgt := 36) hx hb dX8_set_11 (by decide) (by rw [c1]; try decide) (by decide) ?_
    refine lv_aload_n hx hb dX8_set_36 rfl (lv_at hl 0 rfl) ?_
    refine g8_1 C hw (hF 0 (by decide)) K_f_X8_19 dX8_set_37 ?_
    refine g0_1 C hw (hF 3 (by decide)) K_f_X8_72 dX8_set_40 ?_
    refine g7_0 C hw 0 (show 0 < 13 by decide) (hF _ (by have := (show 0 < 13 by decide); omega)) K_f_X8_101 dX8_set_43 ?_
    refine lv_iload_n hx hb dX8_set_46 rfl (lv_at hl 1 rfl) ?_
    obtain ⟨hi1, h⟩ := h
    refine r_iald C hw (53 + 8 * 0 + 1) 6 (hF _ (by have := (show 0 < 13 by decide); omega)) (ce_sta 1 (show 0 < 13 by decide) (by decide) (by decide)) hi1 dX8_set_47 ?_
    rw [hQ]
    refine vx_ret ?_
    refine W.widen (k := 2) (n := 12) (by decide) (by decide) ?_
    exact ret_i C hr hlk hw h dX8_set_48
  · have h := h.2 c1
    by_cases c2 : p2 = nI 1
    · have h := h.1 c2
      refine lv_lookup (tgt := 49) hx hb dX8_set_11 (by decide) (by rw [c2]; try decide) (by decide) ?_
      refine lv_aload_n hx hb dX8_set_49 rfl (lv_at hl 0 rfl) ?_
      refine g8_1 C hw (hF 0 (by decide)) K_f_X8_19 dX8_set_50 ?_
      refine g0_1 C hw (hF 3 (by decide)) K_f_X8_72 dX8_set_53 ?_
      refine g7_1 C hw 0 (show 0 < 13 by decide) (hF _ (by have := (show 0 < 13 by decide); omega)) K_f_X8_118 dX8_set_56 ?_
      refine lv_iload_n hx hb dX8_set_59 rfl (lv_at hl 1 rfl) ?_
      obtain ⟨hi2, h⟩ := h
      refine r_iald C hw (53 + 8 * 0 + 2) 6 (hF _ (by have := (show 0 < 13 by decide); omega)) (ce_sta 2 (show 0 < 13 by decide) (by decide) (by decide)) hi2 dX8_set_60 ?_
      rw [hQ]
      refine vx_ret ?_
      refine W.widen (k := 2) (n := 12) (by decide) (by decide) ?_
      exact ret_i C hr hlk hw h dX8_set_61
    · have h := h.2 c2
      refine lv_lookup (tgt := 62) hx hb dX8_set_11 (by decide) (lk_out c1 c2) (by decide) ?_
      refine lv_aload_n hx hb dX8_set_62 rfl (lv_at hl 0 rfl) ?_
      refine g8_1 C hw (hF 0 (by decide)) K_f_X8_19 dX8_set_63 ?_
      refine g0_0 C hw (hF 3 (by decide)) K_f_X8_60 dX8_set_66 ?_
      refine g6_2 C hw 1 (show 1 < 2 by decide) (hF _ (by have := (show 1 < 2 by decide); omega)) K_f_X8_121 dX8_set_69 ?_
      refine lv_iload_n hx hb dX8_set_72 rfl (lv_at hl 1 rfl) ?_
      obtain ⟨hi3, h⟩ := h
      refine r_iald C hw (27 + 7 * 1 + 3) 6 (hF _ (by have := (show 1 < 2 by decide); omega)) (ce_sea 3 (show 1 < 2 by decide) (by decide) (by decide)) hi3 dX8_set_73 ?_
      rw [hQ]
      refine vx_ret ?_
      refine W.widen (k := 2) (n := 12) (by decide) (by decide) ?_
      exact ret_i C hr hlk hw h dX8_set_74
theorem hy_X8_valueOf : yX8_valueOf.cls ≠ "java/lang/invoke/MethodHandle" ∧ yX8_valueOf.cls ≠ "java/lang/invoke/VarHandle" ∧ (parseMethodDescriptor yX8_valueOf.desc).map (fun d => d.parameters.length) = some 2 := by decide +kernel
def wp_X8_valueOf (w : Wd) (p1 : Int32) (p2 : Int32) (Post : Int32 → Wd → Prop) (Ex : Nat → Wd → Prop) : Prop :=
  wp_X8_checkLadder w p1 (fun w1 => vp_in p1 6 ∧ (∀ y1 : Int32, y1 = ((2 : Int32) <<< ((gA w1 (27 + 7 * 1 + 1) p1.toNatClampNeg) &&& 31)) - 2 → (((p2 &&& (y1 ^^^ ((-1)))) = 0 → (wp_J6_bitCount_0f7a4 w1 p2 (fun r1 w2 => vp_in p1 6 ∧ ((r1 ≤ (gA w2 (27 + 7 * 1 + 2) p1.toNatClampNeg) → (wp_X0_valueWith w2 p1 p2 (fun r2 w3 => Post r2 w3))) ∧ (¬ r1 ≤ (gA w2 (27 + 7 * 1 + 2) p1.toNatClampNeg) → (Ex 0 w2)))))) ∧ (¬ (p2 &&& (y1 ^^^ ((-1)))) = 0 → (Ex 0 w1))))) (fun ke1 w1 => Ex ke1 w1)
set_option maxHeartbeats 4000000 in
set_option maxRecDepth 100000 in
theorem mt_X8_valueOf (l : Launch) (hT : l.stackTraces = false) {E : En} (hI : Inj E) (hF : ∀ o, (o < 15 ∨ 27 ≤ o ∧ o < 157) → o ∈ eL E) (w : Wd) (p1 : Int32) (p2 : Int32) {Post : Int32 → Wd → Prop} {Ex : Nat → Wd → Prop} (h : wp_X8_valueOf w p1 p2 Post Ex) : MXI l E yX8_valueOf cX8_valueOf 4 (some .int) 7 120 2 12 [.ref (eA E 0), .int p1, .int p2] w Post Ex := by
  refine MX.intro hI (by decide +kernel) (Nat.le_of_ble_eq_true rfl) ?_
  intro p e s m args below meth c Q C hr hlk hno hQ hw ls hl
  have hx := C.1
  have hb := C.2.1
  have hl : lv_has ls 4 [(0, .ref (eA E 0)), (1, .int p1), (2, .int p2)] := hl
  unfold wp_X8_valueOf at h
  refine lv_aload_n hx hb dX8_valueOf_0 rfl (lv_at hl 0 rfl) ?_
  refine lv_iload_n hx hb dX8_valueOf_1 rfl (lv_at hl 1 rfl) ?_
  refine done_xv hw (my_runVX (As := [.int p1]) (rest := []) C hw 0 8 (hF 0 (by decide)) rfl rfl (mt_X8_checkLadder l hT C.2.2.2.2.2.2.2 hF _ _ h) K_m_X8_91 K_i_X8_checkLadder K_v_X8_checkLadder K_n_X8 K_c_X8_checkLadder hy_X8_checkLadder ⟨Nat.le_of_ble_eq_true rfl, Nat.le_of_ble_eq_true rfl⟩ hl.1 rfl (Nat.le_of_ble_eq_true rfl) dX8_valueOf_2 ⟨Nat.le_of_ble_eq_true rfl, Nat.le_of_ble_eq_true rfl⟩) (fun ke1 q ce1 w1 H locs hk3 h hw hq hv hcl => ?_) (fun w1 H locs h hw => ?_)
  · rw [hQ]
    exact r_out hlk hno hw hk3 h hq hv hcl ⟨Nat.le_of_ble_eq_true rfl, Nat.le_of_ble_eq_true rfl⟩
  refine lv_iconst (v := 2) hx hb dX8_valueOf_5 (by decide) ?_
  refine lv_aload_n hx hb dX8_valueOf_6 rfl (lv_at hl 0 rfl) ?_
  refine g8_1 C hw (hF 0 (by decide)) K_f_X8_19 dX8_valueOf_7 ?_
  refine g0_0 C hw (hF 3 (by decide)) K_f_X8_60 dX8_valueOf_10 ?_
  refine g6_0 C hw 1 (show 1 < 2 by decide) (hF _ (by have := (show 1 < 2 by decide); omega)) K_f_X8_94 dX8_valueOf_13 ?_
  refine lv_iload_n hx hb dX8_valueOf_16 rfl (lv_at hl 1 rfl) ?_
  obtain ⟨hi1, h⟩ := h
  refine r_iald C hw (27 + 7 * 1 + 1) 6 (hF _ (by have := (show 1 < 2 by decide); omega)) (ce_sea 1 (show 1 < 2 by decide) (by decide) (by decide)) hi1 dX8_valueOf_17 ?_
  refine lv_ishl hx hb dX8_valueOf_18 ?_
  refine lv_iconst (v := 2) hx hb dX8_valueOf_19 (by decide) ?_
  refine lv_isub hx hb dX8_valueOf_20 ?_
  refine lv_topi (fun y1 ey1 => ?_)
  have h := h y1 ey1
  refine lv_istore_n (lv' := [(3, .int y1), (0, .ref (eA E 0)), (1, .int p1), (2, .int p2)]) hx hb dX8_valueOf_21 rfl hl (by decide) rfl (fun ls hl => ?_)
  refine lv_iload_n hx hb dX8_valueOf_22 rfl (lv_at hl 3 rfl) ?_
  refine lv_iload_n hx hb dX8_valueOf_23 rfl (lv_at hl 0 rfl) ?_
  refine lv_iconst (v := (-1)) hx hb dX8_valueOf_24 (by decide) ?_
  refine lv_ixor hx hb dX8_valueOf_25 ?_
  refine lv_iand hx hb dX8_valueOf_26 ?_
  refine lv_if_ne (tgt := 49) hx hb dX8_valueOf_27 (by decide) (fun c1 => ?_) (fun c1 => ?_)
  · have h := h.2 c1
    rw [hQ]
    exact r_throw (i := 16) 0 (by decide) C hT hlk hno hw hl.1 h K_k_X8_38 K_n_o_IllegalArgumentException (by decide +kernel) dX8_valueOf_49 dX8_valueOf_52 dX8_valueOf_53 dX8_valueOf_55 dX8_valueOf_58 ⟨Nat.le_of_ble_eq_true rfl, Nat.le_of_ble_eq_true rfl, Nat.le_of_ble_eq_true rfl, Nat.le_of_ble_eq_true rfl⟩ ⟨Nat.le_of_ble_eq_true rfl, Nat.le_of_ble_eq_true rfl⟩
  · have h := h.1 c1
    refine lv_iload_n hx hb dX8_valueOf_30 rfl (lv_at hl 3 rfl) ?_
    refine done_i hw (my_runS (As := [.int p2]) (rest := []) C hw (mt_J6_bitCount_0f7a4 l C.2.2.2.2.2.2.2 _ _ h) K_m_X8_104 K_s_J6_bitCount_0f7a4 K_n_J6 K_c_J6_bitCount_0f7a4 hy_J6_bitCount_0f7a4 ⟨Nat.le_of_ble_eq_true rfl, Nat.le_of_ble_eq_true rfl⟩ hl.1 rfl (Nat.le_of_ble_eq_true rfl) dX8_valueOf_31 ⟨Nat.le_of_ble_eq_true rfl, Nat.le_of_ble_eq_true rfl⟩) (fun r1 w2 H locs h hw => ?_)
    refine lv_aload_n hx hb dX8_valueOf_34 rfl (lv_at hl 1 rfl) ?_
    refine g8_1 C hw (hF 0 (by decide)) K_f_X8_19 dX8_valueOf_35 ?_
    refine g0_0 C hw (hF 3 (by decide)) K_f_X8_60 dX8_valueOf_38 ?_
    refine g6_1 C hw 1 (show 1 < 2 by decide) (hF _ (by have := (show 1 < 2 by decide); omega)) K_f_X8_98 dX8_valueOf_41 ?_
    refine lv_iload_n hx hb dX8_valueOf_44 rfl (lv_at hl 2 rfl) ?_
    obtain ⟨hi2, h⟩ := h
    refine r_iald C hw (27 + 7 * 1 + 2) 6 (hF _ (by have := (show 1 < 2 by decide); omega)) (ce_sea 2 (show 1 < 2 by decide) (by decide) (by decide)) hi2 dX8_valueOf_45 ?_
    refine lv_icmp_le (tgt := 59) hx hb dX8_valueOf_46 (by decide) (fun c2 => ?_) (fun c2 => ?_)
    · have h := h.1 c2
      refine lv_aload_n hx hb dX8_valueOf_59 rfl (lv_at hl 1 rfl) ?_
      refine g8_1 C hw (hF 0 (by decide)) K_f_X8_19 dX8_valueOf_60 ?_
      refine lv_iload_n hx hb dX8_valueOf_63 rfl (lv_at hl 2 rfl) ?_
      refine lv_iload_n hx hb dX8_valueOf_64 rfl (lv_at hl 3 rfl) ?_
      refine done_i hw (my_runV (As := [.int p1, .int p2]) (rest := []) C hw 3 0 (hF 3 (by decide)) rfl rfl (mt_X0_valueWith l C.2.2.2.2.2.2.2 hF _ _ _ h) K_m_X8_141 K_i_X0_valueWith K_v_X0_valueWith K_n_X0 K_c_X0_valueWith hy_X0_valueWith ⟨Nat.le_of_ble_eq_true rfl, Nat.le_of_ble_eq_true rfl⟩ hl.1 rfl (Nat.le_of_ble_eq_true rfl) dX8_valueOf_65 ⟨Nat.le_of_ble_eq_true rfl, Nat.le_of_ble_eq_true rfl⟩) (fun r2 w3 H locs h hw => ?_)
      rw [hQ]
      refine vx_ret ?_
      refine W.widen (k := 2) (n := 12) (by decide) (by decide) ?_
      exact ret_i C hr hlk hw h dX8_valueOf_68
    · have h := h.2 c2
      rw [hQ]
      exact r_throw (i := 16) 0 (by decide) C hT hlk hno hw hl.1 h K_k_X8_38 K_n_o_IllegalArgumentException (by decide +kernel) dX8_valueOf_49 dX8_valueOf_52 dX8_valueOf_53 dX8_valueOf_55 dX8_valueOf_58 ⟨Nat.le_of_ble_eq_true rfl, Nat.le_of_ble_eq_true rfl, Nat.le_of_ble_eq_true rfl, Nat.le_of_ble_eq_true rfl⟩ ⟨Nat.le_of_ble_eq_true rfl, Nat.le_of_ble_eq_true rfl⟩
theorem hy_X8_stepsOn : yX8_stepsOn.cls ≠ "java/lang/invoke/MethodHandle" ∧ yX8_stepsOn.cls ≠ "java/lang/invoke/VarHandle" ∧ (parseMethodDescriptor yX8_stepsOn.desc).map (fun d => d.parameters.length) = some 1 := by decide +kernel
def wp_X8_stepsOn (w : Wd) (p1 : Int32) (Post : Int32 → Wd → Prop) (Ex : Nat → Wd → Prop) : Prop :=
  wp_X8_checkLadder w p1 (fun w1 => wp_X0_countSteps w1 p1 (fun r1 w2 => Post r1 w2)) (fun ke1 w1 => Ex ke1 w1)
set_option maxHeartbeats 4000000 in
set_option maxRecDepth 100000 in
theorem mt_X8_stepsOn (l : Launch) (hT : l.stackTraces = false) {E : En} (hI : Inj E) (hF : ∀ o, (o < 15 ∨ 27 ≤ o ∧ o < 157) → o ∈ eL E) (w : Wd) (p1 : Int32) {Post : Int32 → Wd → Prop} {Ex : Nat → Wd → Prop} (h : wp_X8_stepsOn w p1 Post Ex) : MXI l E yX8_stepsOn cX8_stepsOn 2 (some .int) 7 103 1 6 [.ref (eA E 0), .int p1] w Post Ex := by
  refine MX.intro hI (by decide +kernel) (Nat.le_of_ble_eq_true rfl) ?_
  intro p e s m args below meth c Q C hr hlk hno hQ hw ls hl
  have hx := C.1
  have hb := C.2.1
  have hl : lv_has ls 2 [(0, .ref (eA E 0)), (1, .int p1)] := hl
  unfold wp_X8_stepsOn at h
  refine lv_aload_n hx hb dX8_stepsOn_0 rfl (lv_at hl 0 rfl) ?_
  refine lv_iload_n hx hb dX8_stepsOn_1 rfl (lv_at hl 1 rfl) ?_
  refine done_xv hw (my_runVX (As := [.int p1]) (rest := []) C hw 0 8 (hF 0 (by decide)) rfl rfl (mt_X8_checkLadder l hT C.2.2.2.2.2.2.2 hF _ _ h) K_m_X8_91 K_i_X8_checkLadder K_v_X8_checkLadder K_n_X8 K_c_X8_checkLadder hy_X8_checkLadder ⟨Nat.le_of_ble_eq_true rfl, Nat.le_of_ble_eq_true rfl⟩ hl.1 rfl (Nat.le_of_ble_eq_true rfl) dX8_stepsOn_2 ⟨Nat.le_of_ble_eq_true rfl, Nat.le_of_ble_eq_true rfl⟩) (fun ke1 q ce1 w1 H locs hk3 h hw hq hv hcl => ?_) (fun w1 H locs h hw => ?_)
  · rw [hQ]
    exact r_out hlk hno hw hk3 h hq hv hcl ⟨Nat.le_of_ble_eq_true rfl, Nat.le_of_ble_eq_true rfl⟩
  refine lv_aload_n hx hb dX8_stepsOn_5 rfl (lv_at hl 0 rfl) ?_
  refine g8_1 C hw (hF 0 (by decide)) K_f_X8_19 dX8_stepsOn_6 ?_
  refine lv_iload_n hx hb dX8_stepsOn_9 rfl (lv_at hl 1 rfl) ?_
  refine done_i hw (my_runV (As := [.int p1]) (rest := []) C hw 3 0 (hF 3 (by decide)) rfl rfl (mt_X0_countSteps l C.2.2.2.2.2.2.2 hF _ _ h) K_m_X8_148 K_i_X0_countSteps K_v_X0_countSteps K_n_X0 K_c_X0_countSteps hy_X0_countSteps ⟨Nat.le_of_ble_eq_true rfl, Nat.le_of_ble_eq_true rfl⟩ hl.1 rfl (Nat.le_of_ble_eq_true rfl) dX8_stepsOn_10 ⟨Nat.le_of_ble_eq_true rfl, Nat.le_of_ble_eq_true rfl⟩) (fun r1 w2 H locs h hw => ?_)
  rw [hQ]
  refine vx_ret ?_
  refine W.widen (k := 1) (n := 6) (by decide) (by decide) ?_
  exact ret_i C hr hlk hw h dX8_stepsOn_13
theorem hy_X8_longest : yX8_longest.cls ≠ "java/lang/invoke/MethodHandle" ∧ yX8_longest.cls ≠ "java/lang/invoke/VarHandle" ∧ (parseMethodDescriptor yX8_longest.desc).map (fun d => d.parameters.length) = some 1 := by decide +kernel
def wp_X8_longest (w : Wd) (p1 : Int32) (Post : Int32 → Wd → Prop) (Ex : Nat → Wd → Prop) : Prop :=
  wp_X8_checkLadder w p1 (fun w1 => wp_X0_explore w1 p1 (fun w2 => wp_X5_farthest w2 (fun r1 w3 => Post r1 w3))) (fun ke1 w1 => Ex ke1 w1)
set_option maxHeartbeats 4000000 in
set_option maxRecDepth 100000 in
theorem mt_X8_longest (l : Launch) (hT : l.stackTraces = false) {E : En} (hI : Inj E) (hF : ∀ o, (o < 15 ∨ 27 ≤ o ∧ o < 157) → o ∈ eL E) (w : Wd) (p1 : Int32) {Post : Int32 → Wd → Prop} {Ex : Nat → Wd → Prop} (h : wp_X8_longest w p1 Post Ex) : MXI l E yX8_longest cX8_longest 2 (some .int) 7 103 1 6 [.ref (eA E 0), .int p1] w Post Ex := by
  refine MX.intro hI (by decide +kernel) (Nat.le_of_ble_eq_true rfl) ?_
  intro p e s m args below meth c Q C hr hlk hno hQ hw ls hl
  have hx := C.1
  have hb := C.2.1
  have hl : lv_has ls 2 [(0, .ref (eA E 0)), (1, .int p1)] := hl
  unfold wp_X8_longest at h
  refine lv_aload_n hx hb dX8_longest_0 rfl (lv_at hl 0 rfl) ?_
  refine lv_iload_n hx hb dX8_longest_1 rfl (lv_at hl 1 rfl) ?_
  refine done_xv hw (my_runVX (As := [.int p1]) (rest := []) C hw 0 8 (hF 0 (by decide)) rfl rfl (mt_X8_checkLadder l hT C.2.2.2.2.2.2.2 hF _ _ h) K_m_X8_91 K_i_X8_checkLadder K_v_X8_checkLadder K_n_X8 K_c_X8_checkLadder hy_X8_checkLadder ⟨Nat.le_of_ble_eq_true rfl, Nat.le_of_ble_eq_true rfl⟩ hl.1 rfl (Nat.le_of_ble_eq_true rfl) dX8_longest_2 ⟨Nat.le_of_ble_eq_true rfl, Nat.le_of_ble_eq_true rfl⟩) (fun ke1 q ce1 w1 H locs hk3 h hw hq hv hcl => ?_) (fun w1 H locs h hw => ?_)
  · rw [hQ]
    exact r_out hlk hno hw hk3 h hq hv hcl ⟨Nat.le_of_ble_eq_true rfl, Nat.le_of_ble_eq_true rfl⟩
  refine lv_aload_n hx hb dX8_longest_5 rfl (lv_at hl 0 rfl) ?_
  refine g8_1 C hw (hF 0 (by decide)) K_f_X8_19 dX8_longest_6 ?_
  refine lv_iload_n hx hb dX8_longest_9 rfl (lv_at hl 1 rfl) ?_
  refine done_v hw (my_runV (As := [.int p1]) (rest := []) C hw 3 0 (hF 3 (by decide)) rfl rfl (mt_X0_explore l C.2.2.2.2.2.2.2 hF _ _ h) K_m_X8_151 K_i_X0_explore K_v_X0_explore K_n_X0 K_c_X0_explore hy_X0_explore ⟨Nat.le_of_ble_eq_true rfl, Nat.le_of_ble_eq_true rfl⟩ hl.1 rfl (Nat.le_of_ble_eq_true rfl) dX8_longest_10 ⟨Nat.le_of_ble_eq_true rfl, Nat.le_of_ble_eq_true rfl⟩) (fun w2 H locs h hw => ?_)
  refine lv_aload_n hx hb dX8_longest_13 rfl (lv_at hl 0 rfl) ?_
  refine g8_1 C hw (hF 0 (by decide)) K_f_X8_19 dX8_longest_14 ?_
  refine g0_2 C hw (hF 3 (by decide)) K_f_X8_154 dX8_longest_17 ?_
  refine done_i hw (my_runV (As := []) (rest := []) C hw 8 5 (hF 8 (by decide)) rfl rfl (mt_X5_farthest l C.2.2.2.2.2.2.2 hF _ h) K_m_X8_158 K_i_X5_farthest K_v_X5_farthest K_n_X5 K_c_X5_farthest hy_X5_farthest ⟨Nat.le_of_ble_eq_true rfl, Nat.le_of_ble_eq_true rfl⟩ hl.1 rfl (Nat.le_of_ble_eq_true rfl) dX8_longest_20 ⟨Nat.le_of_ble_eq_true rfl, Nat.le_of_ble_eq_true rfl⟩) (fun r1 w3 H locs h hw => ?_)
  rw [hQ]
  refine vx_ret ?_
  refine W.widen (k := 1) (n := 6) (by decide) (by decide) ?_
  exact ret_i C hr hlk hw h dX8_longest_23
theorem hy_X8_positions : yX8_positions.cls ≠ "java/lang/invoke/MethodHandle" ∧ yX8_positions.cls ≠ "java/lang/invoke/VarHandle" ∧ (parseMethodDescriptor yX8_positions.desc).map (fun d => d.parameters.length) = some 1 := by decide +kernel
def wp_X8_positions (w : Wd) (p1 : Int32) (Post : Int32 → Wd → Prop) (Ex : Nat → Wd → Prop) : Prop :=
  wp_X8_checkLadder w p1 (fun w1 => wp_X0_explore w1 p1 (fun w2 => wp_X5_countPositions w2 (fun r1 w3 => Post r1 w3))) (fun ke1 w1 => Ex ke1 w1)
set_option maxHeartbeats 4000000 in
set_option maxRecDepth 100000 in
theorem mt_X8_positions (l : Launch) (hT : l.stackTraces = false) {E : En} (hI : Inj E) (hF : ∀ o, (o < 15 ∨ 27 ≤ o ∧ o < 157) → o ∈ eL E) (w : Wd) (p1 : Int32) {Post : Int32 → Wd → Prop} {Ex : Nat → Wd → Prop} (h : wp_X8_positions w p1 Post Ex) : MXI l E yX8_positions cX8_positions 2 (some .int) 7 103 1 6 [.ref (eA E 0), .int p1] w Post Ex := by
  refine MX.intro hI (by decide +kernel) (Nat.le_of_ble_eq_true rfl) ?_
  intro p e s m args below meth c Q C hr hlk hno hQ hw ls hl
  have hx := C.1
  have hb := C.2.1
  have hl : lv_has ls 2 [(0, .ref (eA E 0)), (1, .int p1)] := hl
  unfold wp_X8_positions at h
  refine lv_aload_n hx hb dX8_positions_0 rfl (lv_at hl 0 rfl) ?_
  refine lv_iload_n hx hb dX8_positions_1 rfl (lv_at hl 1 rfl) ?_
  refine done_xv hw (my_runVX (As := [.int p1]) (rest := []) C hw 0 8 (hF 0 (by decide)) rfl rfl (mt_X8_checkLadder l hT C.2.2.2.2.2.2.2 hF _ _ h) K_m_X8_91 K_i_X8_checkLadder K_v_X8_checkLadder K_n_X8 K_c_X8_checkLadder hy_X8_checkLadder ⟨Nat.le_of_ble_eq_true rfl, Nat.le_of_ble_eq_true rfl⟩ hl.1 rfl (Nat.le_of_ble_eq_true rfl) dX8_positions_2 ⟨Nat.le_of_ble_eq_true rfl, Nat.le_of_ble_eq_true rfl⟩) (fun ke1 q ce1 w1 H locs hk3 h hw hq hv hcl => ?_) (fun w1 H locs h hw => ?_)
  · rw [hQ]
    exact r_out hlk hno hw hk3 h hq hv hcl ⟨Nat.le_of_ble_eq_true rfl, Nat.le_of_ble_eq_true rfl⟩
  refine lv_aload_n hx hb dX8_positions_5 rfl (lv_at hl 0 rfl) ?_
  refine g8_1 C hw (hF 0 (by decide)) K_f_X8_19 dX8_positions_6 ?_
  refine lv_iload_n hx hb dX8_positions_9 rfl (lv_at hl 1 rfl) ?_
  refine done_v hw (my_runV (As := [.int p1]) (rest := []) C hw 3 0 (hF 3 (by decide)) rfl rfl (mt_X0_explore l C.2.2.2.2.2.2.2 hF _ _ h) K_m_X8_151 K_i_X0_explore K_v_X0_explore K_n_X0 K_c_X0_explore hy_X0_explore ⟨Nat.le_of_ble_eq_true rfl, Nat.le_of_ble_eq_true rfl⟩ hl.1 rfl (Nat.le_of_ble_eq_true rfl) dX8_positions_10 ⟨Nat.le_of_ble_eq_true rfl, Nat.le_of_ble_eq_true rfl⟩) (fun w2 H locs h hw => ?_)
  refine lv_aload_n hx hb dX8_positions_13 rfl (lv_at hl 0 rfl) ?_
  refine g8_1 C hw (hF 0 (by decide)) K_f_X8_19 dX8_positions_14 ?_
  refine g0_2 C hw (hF 3 (by decide)) K_f_X8_154 dX8_positions_17 ?_
  refine done_i hw (my_runV (As := []) (rest := []) C hw 8 5 (hF 8 (by decide)) rfl rfl (mt_X5_countPositions l C.2.2.2.2.2.2.2 hF _ h) K_m_X8_163 K_i_X5_countPositions K_v_X5_countPositions K_n_X5 K_c_X5_countPositions hy_X5_countPositions ⟨Nat.le_of_ble_eq_true rfl, Nat.le_of_ble_eq_true rfl⟩ hl.1 rfl (Nat.le_of_ble_eq_true rfl) dX8_positions_20 ⟨Nat.le_of_ble_eq_true rfl, Nat.le_of_ble_eq_true rfl⟩) (fun r1 w3 H locs h hw => ?_)
  rw [hQ]
  refine vx_ret ?_
  refine W.widen (k := 1) (n := 6) (by decide) (by decide) ?_
  exact ret_i C hr hlk hw h dX8_positions_23
theorem hy_X8_meanValue : yX8_meanValue.cls ≠ "java/lang/invoke/MethodHandle" ∧ yX8_meanValue.cls ≠ "java/lang/invoke/VarHandle" ∧ (parseMethodDescriptor yX8_meanValue.desc).map (fun d => d.parameters.length) = some 1 := by decide +kernel
def wp_X8_meanValue (w : Wd) (p1 : Int32) (Post : UInt64 → Wd → Prop) (Ex : Nat → Wd → Prop) : Prop :=
  wp_X8_checkLadder w p1 (fun w1 => wp_X0_explore w1 p1 (fun w2 => wp_X0_sumOfReachedValues w2 p1 (fun r1 w3 => ∀ y1 : UInt64, y1 = FP.i2d r1 → (wp_X5_countPositions w3 (fun r2 w4 => (r2 = 0 → (Post FP.dconst0 w4)) ∧ (¬ r2 = 0 → (vf_n64 (FP.ddiv y1 (FP.i2d r2)) ∧ (Post (FP.ddiv y1 (FP.i2d r2)) w4)))))))) (fun ke1 w1 => Ex ke1 w1)
set_option maxHeartbeats 4000000 in
set_option maxRecDepth 100000 in
theorem mt_X8_meanValue (l : Launch) (hT : l.stackTraces = false) {E : En} (hI : Inj E) (hF : ∀ o, (o < 15 ∨ 27 ≤ o ∧ o < 157) → o ∈ eL E) (w : Wd) (p1 : Int32) {Post : UInt64 → Wd → Prop} {Ex : Nat → Wd → Prop} (h : wp_X8_meanValue w p1 Post Ex) : MXD l E yX8_meanValue cX8_meanValue 5 (some .double) 7 122 1 6 [.ref (eA E 0), .int p1] w Post Ex := by
  refine MX.intro hI (by decide +kernel) (Nat.le_of_ble_eq_true rfl) ?_
  intro p e s m args below meth c Q C hr hlk hno hQ hw ls hl
  have hx := C.1
  have hb := C.2.1
  have hl : lv_has ls 5 [(0, .ref (eA E 0)), (1, .int p1)] := hl
  unfold wp_X8_meanValue at h
  refine lv_aload_n hx hb dX8_meanValue_0 rfl (lv_at hl 0 rfl) ?_
  refine lv_iload_n hx hb dX8_meanValue_1 rfl (lv_at hl 1 rfl) ?_
  refine done_xv hw (my_runVX (As := [.int p1]) (rest := []) C hw 0 8 (hF 0 (by decide)) rfl rfl (mt_X8_checkLadder l hT C.2.2.2.2.2.2.2 hF _ _ h) K_m_X8_91 K_i_X8_checkLadder K_v_X8_checkLadder K_n_X8 K_c_X8_checkLadder hy_X8_checkLadder ⟨Nat.le_of_ble_eq_true rfl, Nat.le_of_ble_eq_true rfl⟩ hl.1 rfl (Nat.le_of_ble_eq_true rfl) dX8_meanValue_2 ⟨Nat.le_of_ble_eq_true rfl, Nat.le_of_ble_eq_true rfl⟩) (fun ke1 q ce1 w1 H locs hk3 h hw hq hv hcl => ?_) (fun w1 H locs h hw => ?_)
  · rw [hQ]
    exact r_out hlk hno hw hk3 h hq hv hcl ⟨Nat.le_of_ble_eq_true rfl, Nat.le_of_ble_eq_true rfl⟩
  refine lv_aload_n hx hb dX8_meanValue_5 rfl (lv_at hl 0 rfl) ?_
  refine g8_1 C hw (hF 0 (by decide)) K_f_X8_19 dX8_meanValue_6 ?_
  refine lv_iload_n hx hb dX8_meanValue_9 rfl (lv_at hl 1 rfl) ?_
  refine done_v hw (my_runV (As := [.int p1]) (rest := []) C hw 3 0 (hF 3 (by decide)) rfl rfl (mt_X0_explore l C.2.2.2.2.2.2.2 hF _ _ h) K_m_X8_151 K_i_X0_explore K_v_X0_explore K_n_X0 K_c_X0_explore hy_X0_explore ⟨Nat.le_of_ble_eq_true rfl, Nat.le_of_ble_eq_true rfl⟩ hl.1 rfl (Nat.le_of_ble_eq_true rfl) dX8_meanValue_10 ⟨Nat.le_of_ble_eq_true rfl, Nat.le_of_ble_eq_true rfl⟩) (fun w2 H locs h hw => ?_)
  refine lv_aload_n hx hb dX8_meanValue_13 rfl (lv_at hl 0 rfl) ?_
  refine g8_1 C hw (hF 0 (by decide)) K_f_X8_19 dX8_meanValue_14 ?_
  refine lv_iload_n hx hb dX8_meanValue_17 rfl (lv_at hl 1 rfl) ?_
  refine done_i hw (my_runV (As := [.int p1]) (rest := []) C hw 3 0 (hF 3 (by decide)) rfl rfl (mt_X0_sumOfReachedValues l C.2.2.2.2.2.2.2 hF _ _ h) K_m_X8_166 K_i_X0_sumOfReachedValues K_v_X0_sumOfReachedValues K_n_X0 K_c_X0_sumOfReachedValues hy_X0_sumOfReachedValues ⟨Nat.le_of_ble_eq_true rfl, Nat.le_of_ble_eq_true rfl⟩ hl.1 rfl (Nat.le_of_ble_eq_true rfl) dX8_meanValue_18 ⟨Nat.le_of_ble_eq_true rfl, Nat.le_of_ble_eq_true rfl⟩) (fun r1 w3 H locs h hw => ?_)
  refine lv_i2d hx hb dX8_meanValue_21 ?_
  refine lv_topd (fun y1 ey1 => ?_)
  have h := h y1 ey1
  refine lv_dstore_n (lv' := [(2, .double y1), (0, .ref (eA E 0)), (1, .int p1)]) hx hb dX8_meanValue_22 rfl hl (by decide) rfl (fun ls hl => ?_)
  refine lv_aload_n hx hb dX8_meanValue_23 rfl (lv_at hl 1 rfl) ?_
  refine g8_1 C hw (hF 0 (by decide)) K_f_X8_19 dX8_meanValue_24 ?_
  refine g0_2 C hw (hF 3 (by decide)) K_f_X8_154 dX8_meanValue_27 ?_
  refine done_i hw (my_runV (As := []) (rest := []) C hw 8 5 (hF 8 (by decide)) rfl rfl (mt_X5_countPositions l C.2.2.2.2.2.2.2 hF _ h) K_m_X8_163 K_i_X5_countPositions K_v_X5_countPositions K_n_X5 K_c_X5_countPositions hy_X5_countPositions ⟨Nat.le_of_ble_eq_true rfl, Nat.le_of_ble_eq_true rfl⟩ hl.1 rfl (Nat.le_of_ble_eq_true rfl) dX8_meanValue_30 ⟨Nat.le_of_ble_eq_true rfl, Nat.le_of_ble_eq_true rfl⟩) (fun r2 w4 H locs h hw => ?_)
  refine lv_istore (lv' := [(4, .int r2), (2, .double y1), (0, .ref (eA E 0)), (1, .int p1)]) hx hb dX8_meanValue_33 hl (by decide) rfl (fun ls hl => ?_)
  refine lv_iload hx hb dX8_meanValue_35 (lv_at hl 0 rfl) ?_
  refine lv_if_ne (tgt := 44) hx hb dX8_meanValue_37 (by decide) (fun c1 => ?_) (fun c1 => ?_)
  · have h := h.2 c1
    refine lv_dload_n hx hb dX8_meanValue_44 rfl (lv_at hl 1 rfl) ?_
    refine lv_iload hx hb dX8_meanValue_45 (lv_at hl 0 rfl) ?_
    refine lv_i2d hx hb dX8_meanValue_47 ?_
    obtain ⟨hn1, h⟩ := h
    refine lv_ddiv hx hb dX8_meanValue_48 hn1 ?_
    rw [hQ]
    refine vx_ret ?_
    refine W.widen (k := 1) (n := 6) (by decide) (by decide) ?_
    exact ret_d C hr hlk hw h dX8_meanValue_49
  · have h := h.1 c1
    refine lv_dconst0 hx hb dX8_meanValue_40 ?_
    refine lv_goto (tgt := 49) hx hb dX8_meanValue_41 (by decide) ?_
    rw [hQ]
    refine vx_ret ?_
    refine W.widen (k := 1) (n := 6) (by decide) (by decide) ?_
    exact ret_d C hr hlk hw h dX8_meanValue_49
theorem hy_X8_pass : yX8_pass.cls ≠ "java/lang/invoke/MethodHandle" ∧ yX8_pass.cls ≠ "java/lang/invoke/VarHandle" ∧ (parseMethodDescriptor yX8_pass.desc).map (fun d => d.parameters.length) = some 0 := by decide +kernel
def wp_X8_pass (w : Wd) (Post : Int32 → Wd → Prop) (Ex : Nat → Wd → Prop) : Prop :=
  wp_X0_isOver w (fun r1 w1 => (r1 = 0 → (wp_X0_listChoices w1 (fun r2 w2 => (r2 ≤ 0 → (wp_X2_keep 0 w2 (fun w3 => wp_X0_makePass w3 (fun w4 => Post (gI w4 (53 + 8 * 0) 7) w4)))) ∧ (¬ r2 ≤ 0 → (Ex 2 w2))))) ∧ (¬ r1 = 0 → (Ex 2 w1)))
set_option maxHeartbeats 4000000 in
set_option maxRecDepth 100000 in
theorem mt_X8_pass (l : Launch) (hT : l.stackTraces = false) {E : En} (hI : Inj E) (hF : ∀ o, (o < 15 ∨ 27 ≤ o ∧ o < 157) → o ∈ eL E) (w : Wd) {Post : Int32 → Wd → Prop} {Ex : Nat → Wd → Prop} (h : wp_X8_pass w Post Ex) : MXI l E yX8_pass cX8_pass 1 (some .int) 6 82 1 6 [.ref (eA E 0)] w Post Ex := by
  refine MX.intro hI (by decide +kernel) (Nat.le_of_ble_eq_true rfl) ?_
  intro p e s m args below meth c Q C hr hlk hno hQ hw ls hl
  have hx := C.1
  have hb := C.2.1
  have hl : lv_has ls 1 [(0, .ref (eA E 0))] := hl
  unfold wp_X8_pass at h
  refine lv_aload_n hx hb dX8_pass_0 rfl (lv_at hl 0 rfl) ?_
  refine g8_1 C hw (hF 0 (by decide)) K_f_X8_19 dX8_pass_1 ?_
  refine done_i hw (my_runV (As := []) (rest := []) C hw 3 0 (hF 3 (by decide)) rfl rfl (mt_X0_isOver l C.2.2.2.2.2.2.2 hF _ h) K_m_X8_84 K_i_X0_isOver K_v_X0_isOver K_n_X0 K_c_X0_isOver hy_X0_isOver ⟨Nat.le_of_ble_eq_true rfl, Nat.le_of_ble_eq_true rfl⟩ hl.1 rfl (Nat.le_of_ble_eq_true rfl) dX8_pass_4 ⟨Nat.le_of_ble_eq_true rfl, Nat.le_of_ble_eq_true rfl⟩) (fun r1 w1 H locs h hw => ?_)
  refine lv_if_ne (tgt := 20) hx hb dX8_pass_7 (by decide) (fun c1 => ?_) (fun c1 => ?_)
  · have h := h.2 c1
    rw [hQ]
    exact r_throw (i := 17) 2 (by decide) C hT hlk hno hw hl.1 h K_k_X8_241 K_n_o_IllegalStateException (by decide +kernel) dX8_pass_20 dX8_pass_23 dX8_pass_24 dX8_pass_26 dX8_pass_29 ⟨Nat.le_of_ble_eq_true rfl, Nat.le_of_ble_eq_true rfl, Nat.le_of_ble_eq_true rfl, Nat.le_of_ble_eq_true rfl⟩ ⟨Nat.le_of_ble_eq_true rfl, Nat.le_of_ble_eq_true rfl⟩
  · have h := h.1 c1
    refine lv_aload_n hx hb dX8_pass_10 rfl (lv_at hl 0 rfl) ?_
    refine g8_1 C hw (hF 0 (by decide)) K_f_X8_19 dX8_pass_11 ?_
    refine done_i hw (my_runV (As := []) (rest := []) C hw 3 0 (hF 3 (by decide)) rfl rfl (mt_X0_listChoices l C.2.2.2.2.2.2.2 hF _ h) K_m_X8_173 K_i_X0_listChoices K_v_X0_listChoices K_n_X0 K_c_X0_listChoices hy_X0_listChoices ⟨Nat.le_of_ble_eq_true rfl, Nat.le_of_ble_eq_true rfl⟩ hl.1 rfl (Nat.le_of_ble_eq_true rfl) dX8_pass_14 ⟨Nat.le_of_ble_eq_true rfl, Nat.le_of_ble_eq_true rfl⟩) (fun r2 w2 H locs h hw => ?_)
    refine lv_if_le (tgt := 30) hx hb dX8_pass_17 (by decide) (fun c2 => ?_) (fun c2 => ?_)
    · have h := h.1 c2
      refine lv_aload_n hx hb dX8_pass_30 rfl (lv_at hl 0 rfl) ?_
      refine g8_2 C hw (hF 0 (by decide)) K_f_X8_26 dX8_pass_31 ?_
      refine lv_aload_n hx hb dX8_pass_34 rfl (lv_at hl 0 rfl) ?_
      refine g8_1 C hw (hF 0 (by decide)) K_f_X8_19 dX8_pass_35 ?_
      refine g0_1 C hw (hF 3 (by decide)) K_f_X8_72 dX8_pass_38 ?_
      refine done_v hw (my_runV (As := [.ref (eA E ((53 + 8 * 0)))]) (rest := []) C hw 11 2 (hF 11 (by decide)) rfl rfl (mt_X2_keep l C.2.2.2.2.2.2.2 hF 0 (show 0 < 13 by decide) _ h) K_m_X8_214 K_i_X2_keep K_v_X2_keep K_n_X2 K_c_X2_keep hy_X2_keep ⟨Nat.le_of_ble_eq_true rfl, Nat.le_of_ble_eq_true rfl⟩ hl.1 rfl (Nat.le_of_ble_eq_true rfl) dX8_pass_41 ⟨Nat.le_of_ble_eq_true rfl, Nat.le_of_ble_eq_true rfl⟩) (fun w3 H locs h hw => ?_)
      refine lv_aload_n hx hb dX8_pass_44 rfl (lv_at hl 0 rfl) ?_
      refine g8_1 C hw (hF 0 (by decide)) K_f_X8_19 dX8_pass_45 ?_
      refine done_v hw (my_runV (As := []) (rest := []) C hw 3 0 (hF 3 (by decide)) rfl rfl (mt_X0_makePass l C.2.2.2.2.2.2.2 hF _ h) K_m_X8_251 K_i_X0_makePass K_v_X0_makePass K_n_X0 K_c_X0_makePass hy_X0_makePass ⟨Nat.le_of_ble_eq_true rfl, Nat.le_of_ble_eq_true rfl⟩ hl.1 rfl (Nat.le_of_ble_eq_true rfl) dX8_pass_48 ⟨Nat.le_of_ble_eq_true rfl, Nat.le_of_ble_eq_true rfl⟩) (fun w4 H locs h hw => ?_)
      refine lv_aload_n hx hb dX8_pass_51 rfl (lv_at hl 0 rfl) ?_
      refine g8_1 C hw (hF 0 (by decide)) K_f_X8_19 dX8_pass_52 ?_
      refine g0_1 C hw (hF 3 (by decide)) K_f_X8_72 dX8_pass_55 ?_
      refine g7_7 C hw 0 (show 0 < 13 by decide) (hF _ (by have := (show 0 < 13 by decide); omega)) K_f_X8_76 dX8_pass_58 ?_
      rw [hQ]
      refine vx_ret ?_
      refine W.widen (k := 1) (n := 6) (by decide) (by decide) ?_
      exact ret_i C hr hlk hw h dX8_pass_61
    · have h := h.2 c2
      rw [hQ]
      exact r_throw (i := 17) 2 (by decide) C hT hlk hno hw hl.1 h K_k_X8_241 K_n_o_IllegalStateException (by decide +kernel) dX8_pass_20 dX8_pass_23 dX8_pass_24 dX8_pass_26 dX8_pass_29 ⟨Nat.le_of_ble_eq_true rfl, Nat.le_of_ble_eq_true rfl, Nat.le_of_ble_eq_true rfl, Nat.le_of_ble_eq_true rfl⟩ ⟨Nat.le_of_ble_eq_true rfl, Nat.le_of_ble_eq_true rfl⟩
theorem hy_X8_play : yX8_play.cls ≠ "java/lang/invoke/MethodHandle" ∧ yX8_play.cls ≠ "java/lang/invoke/VarHandle" ∧ (parseMethodDescriptor yX8_play.desc).map (fun d => d.parameters.length) = some 1 := by decide +kernel
def wp_X8_play (w : Wd) (p1 : Int32) (Post : Int32 → Wd → Prop) (Ex : Nat → Wd → Prop) : Prop :=
  ∀ J37 : Int32 → Wd → Prop, (∀ (x2 : Int32) (w : Wd), ((p1 ≤ x2 → (Post x2 w)) ∧ (¬ p1 ≤ x2 → (wp_X0_isOver w (fun r1 w2 => (r1 = 0 → (wp_X0_listChoices w2 (fun r2 w3 => wp_X0_sumNow w3 (fun r3 w4 => wp_X0_firstWinning w4 r2 r3 (fun r4 w5 => wp_X0_makeBestOrPass w5 r2 r4 (fun w6 => ∀ y1 : Int32, y1 = x2 + 1 → (J37 y1 w6))))))) ∧ (¬ r1 = 0 → (Post x2 w2)))))) → J37 x2 w) →
  (p1 < 1 → (Ex 0 w)) ∧ (¬ p1 < 1 → ((p1 ≤ 60 → (wp_X2_keep 0 w (fun w1 => J37 0 w1))) ∧ (¬ p1 ≤ 60 → (Ex 0 w))))
set_option maxHeartbeats 4000000 in
set_option maxRecDepth 100000 in
theorem mt_X8_play (l : Launch) (hT : l.stackTraces = false) {E : En} (hI : Inj E) (hF : ∀ o, (o < 15 ∨ 27 ≤ o ∧ o < 157) → o ∈ eL E) (w : Wd) (p1 : Int32) {Post : Int32 → Wd → Prop} {Ex : Nat → Wd → Prop} (h : wp_X8_play w p1 Post Ex) : MXI l E yX8_play cX8_play 4 (some .int) 6 147 1 6 [.ref (eA E 0), .int p1] w Post Ex := by
  refine MX.intro hI (by decide +kernel) (Nat.le_of_ble_eq_true rfl) ?_
  intro p e s m args below meth c Q C hr hlk hno hQ hw ls hl
  have hx := C.1
  have hb := C.2.1
  have hl : lv_has ls 4 [(0, .ref (eA E 0)), (1, .int p1)] := hl
  unfold wp_X8_play at h
  have h := h (fun x2 w => Jp E p l e (RmX 6 147 1 6) s m args below meth c Q 4 37 [(0, .ref (eA E 0)), (1, .int p1), (2, .int x2)] w)
  have h := h ?_
  rotate_left
  · intro x2 w h H locs hw ls hl
    refine lv_iload_n hx hb dX8_play_37 rfl (lv_at hl 2 rfl) ?_
    refine lv_iload_n hx hb dX8_play_38 rfl (lv_at hl 1 rfl) ?_
    refine lv_icmp_ge (tgt := 89) hx hb dX8_play_39 (by decide) (fun c3 => ?_) (fun c3 => ?_)
    · have h := h.1 c3
      refine lv_iload_n hx hb dX8_play_89 rfl (lv_at hl 2 rfl) ?_
      rw [hQ]
      refine vx_ret ?_
      refine W.widen (k := 1) (n := 6) (by decide) (by decide) ?_
      exact ret_i C hr hlk hw h dX8_play_90
    · have h := h.2 c3
      refine lv_aload_n hx hb dX8_play_42 rfl (lv_at hl 0 rfl) ?_
      refine g8_1 C hw (hF 0 (by decide)) K_f_X8_19 dX8_play_43 ?_
      refine done_i hw (my_runV (As := []) (rest := []) C hw 3 0 (hF 3 (by decide)) rfl rfl (mt_X0_isOver l C.2.2.2.2.2.2.2 hF _ h) K_m_X8_84 K_i_X0_isOver K_v_X0_isOver K_n_X0 K_c_X0_isOver hy_X0_isOver ⟨Nat.le_of_ble_eq_true rfl, Nat.le_of_ble_eq_true rfl⟩ hl.1 rfl (Nat.le_of_ble_eq_true rfl) dX8_play_46 ⟨Nat.le_of_ble_eq_true rfl, Nat.le_of_ble_eq_true rfl⟩) (fun r1 w2 H locs h hw => ?_)
      refine lv_if_ne (tgt := 89) hx hb dX8_play_49 (by decide) (fun c4 => ?_) (fun c4 => ?_)
      · have h := h.2 c4
        refine lv_iload_n hx hb dX8_play_89 rfl (lv_at hl 2 rfl) ?_
        rw [hQ]
        refine vx_ret ?_
        refine W.widen (k := 1) (n := 6) (by decide) (by decide) ?_
        exact ret_i C hr hlk hw h dX8_play_90
      · have h := h.1 c4
        refine lv_aload_n hx hb dX8_play_52 rfl (lv_at hl 0 rfl) ?_
        refine g8_1 C hw (hF 0 (by decide)) K_f_X8_19 dX8_play_53 ?_
        refine done_i hw (my_runV (As := []) (rest := []) C hw 3 0 (hF 3 (by decide)) rfl rfl (mt_X0_listChoices l C.2.2.2.2.2.2.2 hF _ h) K_m_X8_173 K_i_X0_listChoices K_v_X0_listChoices K_n_X0 K_c_X0_listChoices hy_X0_listChoices ⟨Nat.le_of_ble_eq_true rfl, Nat.le_of_ble_eq_true rfl⟩ hl.1 rfl (Nat.le_of_ble_eq_true rfl) dX8_play_56 ⟨Nat.le_of_ble_eq_true rfl, Nat.le_of_ble_eq_true rfl⟩) (fun r2 w3 H locs h hw => ?_)
        refine lv_istore_n (lv' := [(3, .int r2), (0, .ref (eA E 0)), (1, .int p1), (2, .int x2)]) hx hb dX8_play_59 rfl hl (by decide) rfl (fun ls hl => ?_)
        refine lv_aload_n hx hb dX8_play_60 rfl (lv_at hl 1 rfl) ?_
        refine g8_1 C hw (hF 0 (by decide)) K_f_X8_19 dX8_play_61 ?_
        refine lv_iload_n hx hb dX8_play_64 rfl (lv_at hl 0 rfl) ?_
        refine lv_aload_n hx hb dX8_play_65 rfl (lv_at hl 1 rfl) ?_
        refine g8_1 C hw (hF 0 (by decide)) K_f_X8_19 dX8_play_66 ?_
        refine lv_iload_n hx hb dX8_play_69 rfl (lv_at hl 0 rfl) ?_
        refine lv_aload_n hx hb dX8_play_70 rfl (lv_at hl 1 rfl) ?_
        refine g8_1 C hw (hF 0 (by decide)) K_f_X8_19 dX8_play_71 ?_
        refine done_i hw (my_runV (As := []) (rest := [.int r2, .ref (eA E 3), .int r2, .ref (eA E 3)]) C hw 3 0 (hF 3 (by decide)) rfl rfl (mt_X0_sumNow l C.2.2.2.2.2.2.2 hF _ h) K_m_X8_144 K_i_X0_sumNow K_v_X0_sumNow K_n_X0 K_c_X0_sumNow hy_X0_sumNow ⟨Nat.le_of_ble_eq_true rfl, Nat.le_of_ble_eq_true rfl⟩ hl.1 rfl (Nat.le_of_ble_eq_true rfl) dX8_play_74 ⟨Nat.le_of_ble_eq_true rfl, Nat.le_of_ble_eq_true rfl⟩) (fun r3 w4 H locs h hw => ?_)
        refine done_i hw (my_runV (As := [.int r2, .int r3]) (rest := [.int r2, .ref (eA E 3)]) C hw 3 0 (hF 3 (by decide)) rfl rfl (mt_X0_firstWinning l C.2.2.2.2.2.2.2 hF _ _ _ h) K_m_X8_193 K_i_X0_firstWinning K_v_X0_firstWinning K_n_X0 K_c_X0_firstWinning hy_X0_firstWinning ⟨Nat.le_of_ble_eq_true rfl, Nat.le_of_ble_eq_true rfl⟩ hl.1 rfl (Nat.le_of_ble_eq_true rfl) dX8_play_77 ⟨Nat.le_of_ble_eq_true rfl, Nat.le_of_ble_eq_true rfl⟩) (fun r4 w5 H locs h hw => ?_)
        refine done_v hw (my_runV (As := [.int r2, .int r4]) (rest := []) C hw 3 0 (hF 3 (by decide)) rfl rfl (mt_X0_makeBestOrPass l C.2.2.2.2.2.2.2 hF _ _ _ h) K_m_X8_256 K_i_X0_makeBestOrPass K_v_X0_makeBestOrPass K_n_X0 K_c_X0_makeBestOrPass hy_X0_makeBestOrPass ⟨Nat.le_of_ble_eq_true rfl, Nat.le_of_ble_eq_true rfl⟩ hl.1 rfl (Nat.le_of_ble_eq_true rfl) dX8_play_80 ⟨Nat.le_of_ble_eq_true rfl, Nat.le_of_ble_eq_true rfl⟩) (fun w6 H locs h hw => ?_)
        obtain ⟨y1, ey1⟩ : ∃ y : Int32, y = x2 + 1 := ⟨_, rfl⟩
        have h := h y1 ey1
        refine lv_iinc (v := y1) (lv' := [(2, .int y1), (3, .int r2), (0, .ref (eA E 0)), (1, .int p1)]) hx hb dX8_play_83 hl (k := 3) rfl (by rw [ey1]; first | rfl | decide) (by decide) rfl (fun ls hl => ?_)
        refine lv_goto (tgt := 37) hx hb dX8_play_86 (by decide) ?_
        exact h _ _ hw _ (lv_sub hl [2, 3, 0] rfl)
  refine lv_iload_n hx hb dX8_play_0 rfl (lv_at hl 1 rfl) ?_
  refine lv_iconst (v := 1) hx hb dX8_play_1 (by decide) ?_
  refine lv_icmp_lt (tgt := 11) hx hb dX8_play_2 (by decide) (fun c1 => ?_) (fun c1 => ?_)
  · have h := h.1 c1
    rw [hQ]
    exact r_throw (i := 8) 0 (by decide) C hT hlk hno hw hl.1 h K_k_X8_38 K_n_o_IllegalArgumentException (by decide +kernel) dX8_play_11 dX8_play_14 dX8_play_15 dX8_play_17 dX8_play_20 ⟨Nat.le_of_ble_eq_true rfl, Nat.le_of_ble_eq_true rfl, Nat.le_of_ble_eq_true rfl, Nat.le_of_ble_eq_true rfl⟩ ⟨Nat.le_of_ble_eq_true rfl, Nat.le_of_ble_eq_true rfl⟩
  · have h := h.2 c1
    refine lv_iload_n hx hb dX8_play_5 rfl (lv_at hl 1 rfl) ?_
    refine lv_bipush (v := 60) hx hb dX8_play_6 (by decide) ?_
    refine lv_icmp_le (tgt := 21) hx hb dX8_play_8 (by decide) (fun c2 => ?_) (fun c2 => ?_)
    · have h := h.1 c2
      refine lv_aload_n hx hb dX8_play_21 rfl (lv_at hl 0 rfl) ?_
      refine g8_2 C hw (hF 0 (by decide)) K_f_X8_26 dX8_play_22 ?_
      refine lv_aload_n hx hb dX8_play_25 rfl (lv_at hl 0 rfl) ?_
      refine g8_1 C hw (hF 0 (by decide)) K_f_X8_19 dX8_play_26 ?_
      refine g0_1 C hw (hF 3 (by decide)) K_f_X8_72 dX8_play_29 ?_
      refine done_v hw (my_runV (As := [.ref (eA E ((53 + 8 * 0)))]) (rest := []) C hw 11 2 (hF 11 (by decide)) rfl rfl (mt_X2_keep l C.2.2.2.2.2.2.2 hF 0 (show 0 < 13 by decide) _ h) K_m_X8_214 K_i_X2_keep K_v_X2_keep K_n_X2 K_c_X2_keep hy_X2_keep ⟨Nat.le_of_ble_eq_true rfl, Nat.le_of_ble_eq_true rfl⟩ hl.1 rfl (Nat.le_of_ble_eq_true rfl) dX8_play_32 ⟨Nat.le_of_ble_eq_true rfl, Nat.le_of_ble_eq_true rfl⟩) (fun w1 H locs h hw => ?_)
      refine lv_iconst (v := 0) hx hb dX8_play_35 (by decide) ?_
      refine lv_istore_n (lv' := [(2, .int 0), (0, .ref (eA E 0)), (1, .int p1)]) hx hb dX8_play_36 rfl hl (by decide) rfl (fun ls hl => ?_)
      exact h _ _ hw _ (lv_sub hl [1, 2, 0] rfl)
    · have h := h.2 c2
      rw [hQ]
      exact r_throw (i := 8) 0 (by decide) C hT hlk hno hw hl.1 h K_k_X8_38 K_n_o_IllegalArgumentException (by decide +kernel) dX8_play_11 dX8_play_14 dX8_play_15 dX8_play_17 dX8_play_20 ⟨Nat.le_of_ble_eq_true rfl, Nat.le_of_ble_eq_true rfl, Nat.le_of_ble_eq_true rfl, Nat.le_of_ble_eq_true rfl⟩ ⟨Nat.le_of_ble_eq_true rfl, Nat.le_of_ble_eq_true rfl⟩

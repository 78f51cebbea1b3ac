theorem hy_L_parse : yL_parse.cls ≠ "java/lang/invoke/MethodHandle" ∧ yL_parse.cls ≠ "java/lang/invoke/VarHandle" ∧ (parseMethodDescriptor yL_parse.desc).map (fun d => d.parameters.length) = some 3 := by decide +kernel
def wp_L_parse (w : Wd) (p1 : Int32) (Post : Int32 → Wd → Prop) : Prop :=
  wp_X8_parse w p1 (fun r1 w1 => ∀ y1 : Int64, y1 = r1.toInt64 → (Post 0 (sL w1 25 0 y1))) (fun ke1 w1 => ke1 = 0 ∧ (Post 1 w1))
set_option maxHeartbeats 4000000 in
set_option maxRecDepth 100000 in
theorem mt_L_parse (l : Launch) (hT : l.stackTraces = false) {E : En} (hI : Inj E) (hF : ∀ o, (o < 15 ∨ 25 ≤ o ∧ o < 157) → o ∈ eL E) (w : Wd) (p1 : Int32) {Post : Int32 → Wd → Prop} (h : wp_L_parse w p1 Post) : MW l E yL_parse cL_parse 4 (some .int) [(0, 9, 12, 13)] 9 196 1 6 [.ref (eA E 0), .int p1, .ref (eA E 25)] w Post := by
  refine MW.intro hI (by decide +kernel) (Nat.le_of_ble_eq_true rfl) ?_
  intro p e s m args below meth c Q C hr hlk htab hQ hw ls hl
  have hx := C.1
  have hb := C.2.1
  have hl : lv_has ls 4 [(0, .ref (eA E 0)), (1, .int p1), (2, .ref (eA E 25))] := hl
  unfold wp_L_parse at h
  refine lv_aload_n hx hb dL_parse_0 rfl (lv_at hl 2 rfl) ?_
  refine lv_iconst (v := 0) hx hb dL_parse_1 (by decide) ?_
  refine lv_aload_n hx hb dL_parse_2 rfl (lv_at hl 0 rfl) ?_
  refine lv_iload_n hx hb dL_parse_3 rfl (lv_at hl 1 rfl) ?_
  refine done_xi hw (my_runVX (As := [.int p1]) (rest := [.int 0, .ref (eA E 25)]) C hw 0 8 (hF 0 (by decide)) rfl rfl (mt_X8_parse l hT C.2.2.2.2.2.2.2 hF _ _ h) K_m_L_7 K_i_X8_parse K_v_X8_parse K_n_X8 K_c_X8_parse hy_X8_parse ⟨Nat.le_of_ble_eq_true rfl, Nat.le_of_ble_eq_true rfl⟩ hl.1 rfl (Nat.le_of_ble_eq_true rfl) dL_parse_4 ⟨Nat.le_of_ble_eq_true rfl, Nat.le_of_ble_eq_true rfl⟩) (fun ke1 q ce1 w1 H locs hk3 h hw hq hv hcl => ?_) (fun r1 w1 H locs h hw => ?_)
  · obtain ⟨he, h⟩ := h
    refine r_catch1 0 C htab hk3 he (by decide) (by decide) K_k_L_13 hq hv hcl ?_
    refine lv_astore_n (lv' := [(3, .ref q), (0, .ref (eA E 0)), (1, .int p1), (2, .ref (eA E 25))]) hx hb dL_parse_12 rfl hl (by decide) rfl (fun ls hl => ?_)
    refine lv_iconst (v := 1) hx hb dL_parse_13 (by decide) ?_
    rw [hQ]
    refine vx_ret ?_
    refine W.widen (k := 1) (n := 6) (by decide) (by decide) ?_
    exact ret_i C hr hlk hw h dL_parse_14
  refine lv_i2l hx hb dL_parse_7 rfl ?_
  refine lv_topl (fun y1 ey1 => ?_)
  have h := h y1 ey1
  refine r_last C hw 25 1 (hF 25 (by decide)) (fun _ => rfl) (vp_lit (by decide)) dL_parse_8 (fun H locs hw => ?_)
  refine lv_goto (tgt := 15) hx hb dL_parse_9 (by decide) ?_
  refine lv_iconst (v := 0) hx hb dL_parse_15 (by decide) ?_
  rw [hQ]
  refine vx_ret ?_
  refine W.widen (k := 1) (n := 6) (by decide) (by decide) ?_
  exact ret_i C hr hlk hw h dL_parse_16
theorem hy_L_size : yL_size.cls ≠ "java/lang/invoke/MethodHandle" ∧ yL_size.cls ≠ "java/lang/invoke/VarHandle" ∧ (parseMethodDescriptor yL_size.desc).map (fun d => d.parameters.length) = some 3 := by decide +kernel
def wp_L_size (w : Wd) (p1 : Int32) (Post : Int32 → Wd → Prop) : Prop :=
  wp_X8_size w p1 (fun r1 w1 => ∀ y1 : Int64, y1 = r1.toInt64 → (Post 0 (sL w1 25 0 y1))) (fun ke1 w1 => ke1 = 0 ∧ (Post 1 w1))
set_option maxHeartbeats 4000000 in
set_option maxRecDepth 100000 in
theorem mt_L_size (l : Launch) (hT : l.stackTraces = false) {E : En} (hI : Inj E) (hF : ∀ o, (o < 15 ∨ 25 ≤ o ∧ o < 157) → o ∈ eL E) (w : Wd) (p1 : Int32) {Post : Int32 → Wd → Prop} (h : wp_L_size w p1 Post) : MW l E yL_size cL_size 4 (some .int) [(0, 9, 12, 13)] 8 124 1 6 [.ref (eA E 0), .int p1, .ref (eA E 25)] w Post := by
  refine MW.intro hI (by decide +kernel) (Nat.le_of_ble_eq_true rfl) ?_
  intro p e s m args below meth c Q C hr hlk htab hQ hw ls hl
  have hx := C.1
  have hb := C.2.1
  have hl : lv_has ls 4 [(0, .ref (eA E 0)), (1, .int p1), (2, .ref (eA E 25))] := hl
  unfold wp_L_size at h
  refine lv_aload_n hx hb dL_size_0 rfl (lv_at hl 2 rfl) ?_
  refine lv_iconst (v := 0) hx hb dL_size_1 (by decide) ?_
  refine lv_aload_n hx hb dL_size_2 rfl (lv_at hl 0 rfl) ?_
  refine lv_iload_n hx hb dL_size_3 rfl (lv_at hl 1 rfl) ?_
  refine done_xi hw (my_runVX (As := [.int p1]) (rest := [.int 0, .ref (eA E 25)]) C hw 0 8 (hF 0 (by decide)) rfl rfl (mt_X8_size l hT C.2.2.2.2.2.2.2 hF _ _ h) K_m_L_15 K_i_X8_size K_v_X8_size K_n_X8 K_c_X8_size hy_X8_size ⟨Nat.le_of_ble_eq_true rfl, Nat.le_of_ble_eq_true rfl⟩ hl.1 rfl (Nat.le_of_ble_eq_true rfl) dL_size_4 ⟨Nat.le_of_ble_eq_true rfl, Nat.le_of_ble_eq_true rfl⟩) (fun ke1 q ce1 w1 H locs hk3 h hw hq hv hcl => ?_) (fun r1 w1 H locs h hw => ?_)
  · obtain ⟨he, h⟩ := h
    refine r_catch1 0 C htab hk3 he (by decide) (by decide) K_k_L_13 hq hv hcl ?_
    refine lv_astore_n (lv' := [(3, .ref q), (0, .ref (eA E 0)), (1, .int p1), (2, .ref (eA E 25))]) hx hb dL_size_12 rfl hl (by decide) rfl (fun ls hl => ?_)
    refine lv_iconst (v := 1) hx hb dL_size_13 (by decide) ?_
    rw [hQ]
    refine vx_ret ?_
    refine W.widen (k := 1) (n := 6) (by decide) (by decide) ?_
    exact ret_i C hr hlk hw h dL_size_14
  refine lv_i2l hx hb dL_size_7 rfl ?_
  refine lv_topl (fun y1 ey1 => ?_)
  have h := h y1 ey1
  refine r_last C hw 25 1 (hF 25 (by decide)) (fun _ => rfl) (vp_lit (by decide)) dL_size_8 (fun H locs hw => ?_)
  refine lv_goto (tgt := 15) hx hb dL_size_9 (by decide) ?_
  refine lv_iconst (v := 0) hx hb dL_size_15 (by decide) ?_
  rw [hQ]
  refine vx_ret ?_
  refine W.widen (k := 1) (n := 6) (by decide) (by decide) ?_
  exact ret_i C hr hlk hw h dL_size_16
theorem hy_L_ladder : yL_ladder.cls ≠ "java/lang/invoke/MethodHandle" ∧ yL_ladder.cls ≠ "java/lang/invoke/VarHandle" ∧ (parseMethodDescriptor yL_ladder.desc).map (fun d => d.parameters.length) = some 4 := by decide +kernel
def wp_L_ladder (w : Wd) (p1 : Int32) (p2 : Int32) (Post : Int32 → Wd → Prop) : Prop :=
  wp_X8_ladder w p1 p2 (fun r1 w1 => ∀ y1 : Int64, y1 = r1.toInt64 → (Post 0 (sL w1 25 0 y1))) (fun ke1 w1 => (ke1 = 1 ∧ (Post 1 w1)) ∨ (ke1 = 0 ∧ (Post 2 w1)))
set_option maxHeartbeats 4000000 in
set_option maxRecDepth 100000 in
theorem mt_L_ladder (l : Launch) (hT : l.stackTraces = false) {E : En} (hI : Inj E) (hF : ∀ o, (o < 15 ∨ 25 ≤ o ∧ o < 157) → o ∈ eL E) (w : Wd) (p1 : Int32) (p2 : Int32) {Post : Int32 → Wd → Prop} (h : wp_L_ladder w p1 p2 Post) : MW l E yL_ladder cL_ladder 5 (some .int) [(0, 10, 13, 22), (0, 10, 17, 13)] 8 163 2 12 [.ref (eA E 0), .int p1, .int p2, .ref (eA E 25)] w Post := by
  refine MW.intro hI (by decide +kernel) (Nat.le_of_ble_eq_true rfl) ?_
  intro p e s m args below meth c Q C hr hlk htab hQ hw ls hl
  have hx := C.1
  have hb := C.2.1
  have hl : lv_has ls 5 [(0, .ref (eA E 0)), (1, .int p1), (2, .int p2), (3, .ref (eA E 25))] := hl
  unfold wp_L_ladder at h
  refine lv_aload_n hx hb dL_ladder_0 rfl (lv_at hl 3 rfl) ?_
  refine lv_iconst (v := 0) hx hb dL_ladder_1 (by decide) ?_
  refine lv_aload_n hx hb dL_ladder_2 rfl (lv_at hl 0 rfl) ?_
  refine lv_iload_n hx hb dL_ladder_3 rfl (lv_at hl 1 rfl) ?_
  refine lv_iload_n hx hb dL_ladder_4 rfl (lv_at hl 2 rfl) ?_
  refine done_xi hw (my_runVX (As := [.int p1, .int p2]) (rest := [.int 0, .ref (eA E 25)]) C hw 0 8 (hF 0 (by decide)) rfl rfl (mt_X8_ladder l hT C.2.2.2.2.2.2.2 hF _ _ _ h) K_m_L_18 K_i_X8_ladder K_v_X8_ladder K_n_X8 K_c_X8_ladder hy_X8_ladder ⟨Nat.le_of_ble_eq_true rfl, Nat.le_of_ble_eq_true rfl⟩ hl.1 rfl (Nat.le_of_ble_eq_true rfl) dL_ladder_5 ⟨Nat.le_of_ble_eq_true rfl, Nat.le_of_ble_eq_true rfl⟩) (fun ke1 q ce1 w1 H locs hk3 h hw hq hv hcl => ?_) (fun r1 w1 H locs h hw => ?_)
  · rcases h with ⟨he, h⟩ | ⟨he, h⟩
    · refine r_catch2a C htab he (by decide) (by decide) K_k_L_22 hq hv hcl ?_
      refine lv_astore (lv' := [(4, .ref q), (0, .ref (eA E 0)), (1, .int p1), (2, .int p2), (3, .ref (eA E 25))]) hx hb dL_ladder_13 hl (by decide) rfl (fun ls hl => ?_)
      refine lv_iconst (v := 1) hx hb dL_ladder_15 (by decide) ?_
      rw [hQ]
      refine vx_ret ?_
      refine W.widen (k := 2) (n := 12) (by decide) (by decide) ?_
      exact ret_i C hr hlk hw h dL_ladder_16
    · refine r_catch2 C htab he (by decide) (by decide) (by decide) K_k_L_13 K_k_L_22 hq hv hcl ?_
      refine lv_astore (lv' := [(4, .ref q), (0, .ref (eA E 0)), (1, .int p1), (2, .int p2), (3, .ref (eA E 25))]) hx hb dL_ladder_17 hl (by decide) rfl (fun ls hl => ?_)
      refine lv_iconst (v := 2) hx hb dL_ladder_19 (by decide) ?_
      rw [hQ]
      refine vx_ret ?_
      refine W.widen (k := 2) (n := 12) (by decide) (by decide) ?_
      exact ret_i C hr hlk hw h dL_ladder_20
  refine lv_i2l hx hb dL_ladder_8 rfl ?_
  refine lv_topl (fun y1 ey1 => ?_)
  have h := h y1 ey1
  refine r_last C hw 25 1 (hF 25 (by decide)) (fun _ => rfl) (vp_lit (by decide)) dL_ladder_9 (fun H locs hw => ?_)
  refine lv_goto (tgt := 21) hx hb dL_ladder_10 (by decide) ?_
  refine lv_iconst (v := 0) hx hb dL_ladder_21 (by decide) ?_
  rw [hQ]
  refine vx_ret ?_
  refine W.widen (k := 2) (n := 12) (by decide) (by decide) ?_
  exact ret_i C hr hlk hw h dL_ladder_22
theorem hy_L_set : yL_set.cls ≠ "java/lang/invoke/MethodHandle" ∧ yL_set.cls ≠ "java/lang/invoke/VarHandle" ∧ (parseMethodDescriptor yL_set.desc).map (fun d => d.parameters.length) = some 4 := by decide +kernel
def wp_L_set (w : Wd) (p1 : Int32) (p2 : Int32) (Post : Int32 → Wd → Prop) : Prop :=
  wp_X8_set w p1 p2 (fun r1 w1 => ∀ y1 : Int64, y1 = r1.toInt64 → (Post 0 (sL w1 25 0 y1))) (fun ke1 w1 => (ke1 = 1 ∧ (Post 1 w1)) ∨ (ke1 = 0 ∧ (Post 2 w1)))
set_option maxHeartbeats 4000000 in
set_option maxRecDepth 100000 in
theorem mt_L_set (l : Launch) (hT : l.stackTraces = false) {E : En} (hI : Inj E) (hF : ∀ o, (o < 15 ∨ 25 ≤ o ∧ o < 157) → o ∈ eL E) (w : Wd) (p1 : Int32) (p2 : Int32) {Post : Int32 → Wd → Prop} (h : wp_L_set w p1 p2 Post) : MW l E yL_set cL_set 5 (some .int) [(0, 10, 13, 22), (0, 10, 17, 13)] 8 125 2 12 [.ref (eA E 0), .int p1, .int p2, .ref (eA E 25)] w Post := by
  refine MW.intro hI (by decide +kernel) (Nat.le_of_ble_eq_true rfl) ?_
  intro p e s m args below meth c Q C hr hlk htab hQ hw ls hl
  have hx := C.1
  have hb := C.2.1
  have hl : lv_has ls 5 [(0, .ref (eA E 0)), (1, .int p1), (2, .int p2), (3, .ref (eA E 25))] := hl
  unfold wp_L_set at h
  refine lv_aload_n hx hb dL_set_0 rfl (lv_at hl 3 rfl) ?_
  refine lv_iconst (v := 0) hx hb dL_set_1 (by decide) ?_
  refine lv_aload_n hx hb dL_set_2 rfl (lv_at hl 0 rfl) ?_
  refine lv_iload_n hx hb dL_set_3 rfl (lv_at hl 1 rfl) ?_
  refine lv_iload_n hx hb dL_set_4 rfl (lv_at hl 2 rfl) ?_
  refine done_xi hw (my_runVX (As := [.int p1, .int p2]) (rest := [.int 0, .ref (eA E 25)]) C hw 0 8 (hF 0 (by decide)) rfl rfl (mt_X8_set l hT C.2.2.2.2.2.2.2 hF _ _ _ h) K_m_L_24 K_i_X8_set K_v_X8_set K_n_X8 K_c_X8_set hy_X8_set ⟨Nat.le_of_ble_eq_true rfl, Nat.le_of_ble_eq_true rfl⟩ hl.1 rfl (Nat.le_of_ble_eq_true rfl) dL_set_5 ⟨Nat.le_of_ble_eq_true rfl, Nat.le_of_ble_eq_true rfl⟩) (fun ke1 q ce1 w1 H locs hk3 h hw hq hv hcl => ?_) (fun r1 w1 H locs h hw => ?_)
  · rcases h with ⟨he, h⟩ | ⟨he, h⟩
    · refine r_catch2a C htab he (by decide) (by decide) K_k_L_22 hq hv hcl ?_
      refine lv_astore (lv' := [(4, .ref q), (0, .ref (eA E 0)), (1, .int p1), (2, .int p2), (3, .ref (eA E 25))]) hx hb dL_set_13 hl (by decide) rfl (fun ls hl => ?_)
      refine lv_iconst (v := 1) hx hb dL_set_15 (by decide) ?_
      rw [hQ]
      refine vx_ret ?_
      refine W.widen (k := 2) (n := 12) (by decide) (by decide) ?_
      exact ret_i C hr hlk hw h dL_set_16
    · refine r_catch2 C htab he (by decide) (by decide) (by decide) K_k_L_13 K_k_L_22 hq hv hcl ?_
      refine lv_astore (lv' := [(4, .ref q), (0, .ref (eA E 0)), (1, .int p1), (2, .int p2), (3, .ref (eA E 25))]) hx hb dL_set_17 hl (by decide) rfl (fun ls hl => ?_)
      refine lv_iconst (v := 2) hx hb dL_set_19 (by decide) ?_
      rw [hQ]
      refine vx_ret ?_
      refine W.widen (k := 2) (n := 12) (by decide) (by decide) ?_
      exact ret_i C hr hlk hw h dL_set_20
  refine lv_i2l hx hb dL_set_8 rfl ?_
  refine lv_topl (fun y1 ey1 => ?_)
  have h := h y1 ey1
  refine r_last C hw 25 1 (hF 25 (by decide)) (fun _ => rfl) (vp_lit (by decide)) dL_set_9 (fun H locs hw => ?_)
  refine lv_goto (tgt := 21) hx hb dL_set_10 (by decide) ?_
  refine lv_iconst (v := 0) hx hb dL_set_21 (by decide) ?_
  rw [hQ]
  refine vx_ret ?_
  refine W.widen (k := 2) (n := 12) (by decide) (by decide) ?_
  exact ret_i C hr hlk hw h dL_set_22
theorem hy_L_player : yL_player.cls ≠ "java/lang/invoke/MethodHandle" ∧ yL_player.cls ≠ "java/lang/invoke/VarHandle" ∧ (parseMethodDescriptor yL_player.desc).map (fun d => d.parameters.length) = some 4 := by decide +kernel
def wp_L_player (w : Wd) (p1 : Int32) (p2 : Int32) (Post : Int32 → Wd → Prop) : Prop :=
  wp_X8_player w p1 p2 (fun r1 w1 => ∀ y1 : Int64, y1 = r1.toInt64 → (Post 0 (sL w1 25 0 y1))) (fun ke1 w1 => (ke1 = 1 ∧ (Post 1 w1)) ∨ (ke1 = 0 ∧ (Post 2 w1)))
set_option maxHeartbeats 4000000 in
set_option maxRecDepth 100000 in
theorem mt_L_player (l : Launch) (hT : l.stackTraces = false) {E : En} (hI : Inj E) (hF : ∀ o, (o < 15 ∨ 25 ≤ o ∧ o < 157) → o ∈ eL E) (w : Wd) (p1 : Int32) (p2 : Int32) {Post : Int32 → Wd → Prop} (h : wp_L_player w p1 p2 Post) : MW l E yL_player cL_player 5 (some .int) [(0, 10, 13, 22), (0, 10, 17, 13)] 8 125 1 6 [.ref (eA E 0), .int p1, .int p2, .ref (eA E 25)] w Post := by
  refine MW.intro hI (by decide +kernel) (Nat.le_of_ble_eq_true rfl) ?_
  intro p e s m args below meth c Q C hr hlk htab hQ hw ls hl
  have hx := C.1
  have hb := C.2.1
  have hl : lv_has ls 5 [(0, .ref (eA E 0)), (1, .int p1), (2, .int p2), (3, .ref (eA E 25))] := hl
  unfold wp_L_player at h
  refine lv_aload_n hx hb dL_player_0 rfl (lv_at hl 3 rfl) ?_
  refine lv_iconst (v := 0) hx hb dL_player_1 (by decide) ?_
  refine lv_aload_n hx hb dL_player_2 rfl (lv_at hl 0 rfl) ?_
  refine lv_iload_n hx hb dL_player_3 rfl (lv_at hl 1 rfl) ?_
  refine lv_iload_n hx hb dL_player_4 rfl (lv_at hl 2 rfl) ?_
  refine done_xi hw (my_runVX (As := [.int p1, .int p2]) (rest := [.int 0, .ref (eA E 25)]) C hw 0 8 (hF 0 (by decide)) rfl rfl (mt_X8_player l hT C.2.2.2.2.2.2.2 hF _ _ _ h) K_m_L_27 K_i_X8_player K_v_X8_player K_n_X8 K_c_X8_player hy_X8_player ⟨Nat.le_of_ble_eq_true rfl, Nat.le_of_ble_eq_true rfl⟩ hl.1 rfl (Nat.le_of_ble_eq_true rfl) dL_player_5 ⟨Nat.le_of_ble_eq_true rfl, Nat.le_of_ble_eq_true rfl⟩) (fun ke1 q ce1 w1 H locs hk3 h hw hq hv hcl => ?_) (fun r1 w1 H locs h hw => ?_)
  · rcases h with ⟨he, h⟩ | ⟨he, h⟩
    · refine r_catch2a C htab he (by decide) (by decide) K_k_L_22 hq hv hcl ?_
      refine lv_astore (lv' := [(4, .ref q), (0, .ref (eA E 0)), (1, .int p1), (2, .int p2), (3, .ref (eA E 25))]) hx hb dL_player_13 hl (by decide) rfl (fun ls hl => ?_)
      refine lv_iconst (v := 1) hx hb dL_player_15 (by decide) ?_
      rw [hQ]
      refine vx_ret ?_
      refine W.widen (k := 1) (n := 6) (by decide) (by decide) ?_
      exact ret_i C hr hlk hw h dL_player_16
    · refine r_catch2 C htab he (by decide) (by decide) (by decide) K_k_L_13 K_k_L_22 hq hv hcl ?_
      refine lv_astore (lv' := [(4, .ref q), (0, .ref (eA E 0)), (1, .int p1), (2, .int p2), (3, .ref (eA E 25))]) hx hb dL_player_17 hl (by decide) rfl (fun ls hl => ?_)
      refine lv_iconst (v := 2) hx hb dL_player_19 (by decide) ?_
      rw [hQ]
      refine vx_ret ?_
      refine W.widen (k := 1) (n := 6) (by decide) (by decide) ?_
      exact ret_i C hr hlk hw h dL_player_20
  refine lv_i2l hx hb dL_player_8 rfl ?_
  refine lv_topl (fun y1 ey1 => ?_)
  have h := h y1 ey1
  refine r_last C hw 25 1 (hF 25 (by decide)) (fun _ => rfl) (vp_lit (by decide)) dL_player_9 (fun H locs hw => ?_)
  refine lv_goto (tgt := 21) hx hb dL_player_10 (by decide) ?_
  refine lv_iconst (v := 0) hx hb dL_player_21 (by decide) ?_
  rw [hQ]
  refine vx_ret ?_
  refine W.widen (k := 1) (n := 6) (by decide) (by decide) ?_
  exact ret_i C hr hlk hw h dL_player_22
theorem hy_L_act : yL_act.cls ≠ "java/lang/invoke/MethodHandle" ∧ yL_act.cls ≠ "java/lang/invoke/VarHandle" ∧ (parseMethodDescriptor yL_act.desc).map (fun d => d.parameters.length) = some 4 := by decide +kernel
def wp_L_act (w : Wd) (p1 : Int32) (p2 : Int32) (Post : Int32 → Wd → Prop) : Prop :=
  wp_X8_act w p1 p2 (fun r1 w1 => ∀ y1 : Int64, y1 = r1.toInt64 → (Post 0 (sL w1 25 0 y1))) (fun ke1 w1 => ke1 = 0 ∧ (Post 1 w1))
set_option maxHeartbeats 4000000 in
set_option maxRecDepth 100000 in
theorem mt_L_act (l : Launch) (hT : l.stackTraces = false) {E : En} (hI : Inj E) (hF : ∀ o, (o < 15 ∨ 25 ≤ o ∧ o < 157) → o ∈ eL E) (w : Wd) (p1 : Int32) (p2 : Int32) {Post : Int32 → Wd → Prop} (h : wp_L_act w p1 p2 Post) : MW l E yL_act cL_act 5 (some .int) [(0, 10, 13, 13)] 8 125 1 6 [.ref (eA E 0), .int p1, .int p2, .ref (eA E 25)] w Post := by
  refine MW.intro hI (by decide +kernel) (Nat.le_of_ble_eq_true rfl) ?_
  intro p e s m args below meth c Q C hr hlk htab hQ hw ls hl
  have hx := C.1
  have hb := C.2.1
  have hl : lv_has ls 5 [(0, .ref (eA E 0)), (1, .int p1), (2, .int p2), (3, .ref (eA E 25))] := hl
  unfold wp_L_act at h
  refine lv_aload_n hx hb dL_act_0 rfl (lv_at hl 3 rfl) ?_
  refine lv_iconst (v := 0) hx hb dL_act_1 (by decide) ?_
  refine lv_aload_n hx hb dL_act_2 rfl (lv_at hl 0 rfl) ?_
  refine lv_iload_n hx hb dL_act_3 rfl (lv_at hl 1 rfl) ?_
  refine lv_iload_n hx hb dL_act_4 rfl (lv_at hl 2 rfl) ?_
  refine done_xi hw (my_runVX (As := [.int p1, .int p2]) (rest := [.int 0, .ref (eA E 25)]) C hw 0 8 (hF 0 (by decide)) rfl rfl (mt_X8_act l hT C.2.2.2.2.2.2.2 hF _ _ _ h) K_m_L_30 K_i_X8_act K_v_X8_act K_n_X8 K_c_X8_act hy_X8_act ⟨Nat.le_of_ble_eq_true rfl, Nat.le_of_ble_eq_true rfl⟩ hl.1 rfl (Nat.le_of_ble_eq_true rfl) dL_act_5 ⟨Nat.le_of_ble_eq_true rfl, Nat.le_of_ble_eq_true rfl⟩) (fun ke1 q ce1 w1 H locs hk3 h hw hq hv hcl => ?_) (fun r1 w1 H locs h hw => ?_)
  · obtain ⟨he, h⟩ := h
    refine r_catch1 0 C htab hk3 he (by decide) (by decide) K_k_L_13 hq hv hcl ?_
    refine lv_astore (lv' := [(4, .ref q), (0, .ref (eA E 0)), (1, .int p1), (2, .int p2), (3, .ref (eA E 25))]) hx hb dL_act_13 hl (by decide) rfl (fun ls hl => ?_)
    refine lv_iconst (v := 1) hx hb dL_act_15 (by decide) ?_
    rw [hQ]
    refine vx_ret ?_
    refine W.widen (k := 1) (n := 6) (by decide) (by decide) ?_
    exact ret_i C hr hlk hw h dL_act_16
  refine lv_i2l hx hb dL_act_8 rfl ?_
  refine lv_topl (fun y1 ey1 => ?_)
  have h := h y1 ey1
  refine r_last C hw 25 1 (hF 25 (by decide)) (fun _ => rfl) (vp_lit (by decide)) dL_act_9 (fun H locs hw => ?_)
  refine lv_goto (tgt := 17) hx hb dL_act_10 (by decide) ?_
  refine lv_iconst (v := 0) hx hb dL_act_17 (by decide) ?_
  rw [hQ]
  refine vx_ret ?_
  refine W.widen (k := 1) (n := 6) (by decide) (by decide) ?_
  exact ret_i C hr hlk hw h dL_act_18
theorem hy_L_valueOf : yL_valueOf.cls ≠ "java/lang/invoke/MethodHandle" ∧ yL_valueOf.cls ≠ "java/lang/invoke/VarHandle" ∧ (parseMethodDescriptor yL_valueOf.desc).map (fun d => d.parameters.length) = some 4 := by decide +kernel
def wp_L_valueOf (w : Wd) (p1 : Int32) (p2 : Int32) (Post : Int32 → Wd → Prop) : Prop :=
  wp_X8_valueOf w p1 p2 (fun r1 w1 => ∀ y1 : Int64, y1 = r1.toInt64 → (Post 0 (sL w1 25 0 y1))) (fun ke1 w1 => (ke1 = 1 ∧ (Post 1 w1)) ∨ (ke1 = 0 ∧ (Post 2 w1)))
set_option maxHeartbeats 4000000 in
set_option maxRecDepth 100000 in
theorem mt_L_valueOf (l : Launch) (hT : l.stackTraces = false) {E : En} (hI : Inj E) (hF : ∀ o, (o < 15 ∨ 25 ≤ o ∧ o < 157) → o ∈ eL E) (w : Wd) (p1 : Int32) (p2 : Int32) {Post : Int32 → Wd → Prop} (h : wp_L_valueOf w p1 p2 Post) : MW l E yL_valueOf cL_valueOf 5 (some .int) [(0, 10, 13, 22), (0, 10, 17, 13)] 8 143 2 12 [.ref (eA E 0), .int p1, .int p2, .ref (eA E 25)] w Post := by
  refine MW.intro hI (by decide +kernel) (Nat.le_of_ble_eq_true rfl) ?_
  intro p e s m args below meth c Q C hr hlk htab hQ hw ls hl
  have hx := C.1
  have hb := C.2.1
  have hl : lv_has ls 5 [(0, .ref (eA E 0)), (1, .int p1), (2, .int p2), (3, .ref (eA E 25))] := hl
  unfold wp_L_valueOf at h
  refine lv_aload_n hx hb dL_valueOf_0 rfl (lv_at hl 3 rfl) ?_
  refine lv_iconst (v := 0) hx hb dL_valueOf_1 (by decide) ?_
  refine lv_aload_n hx hb dL_valueOf_2 rfl (lv_at hl 0 rfl) ?_
  refine lv_iload_n hx hb dL_valueOf_3 rfl (lv_at hl 1 rfl) ?_
  refine lv_iload_n hx hb dL_valueOf_4 rfl (lv_at hl 2 rfl) ?_
  refine done_xi hw (my_runVX (As := [.int p1, .int p2]) (rest := [.int 0, .ref (eA E 25)]) C hw 0 8 (hF 0 (by decide)) rfl rfl (mt_X8_valueOf l hT C.2.2.2.2.2.2.2 hF _ _ _ h) K_m_L_33 K_i_X8_valueOf K_v_X8_valueOf K_n_X8 K_c_X8_valueOf hy_X8_valueOf ⟨Nat.le_of_ble_eq_true rfl, Nat.le_of_ble_eq_true rfl⟩ hl.1 rfl (Nat.le_of_ble_eq_true rfl) dL_valueOf_5 ⟨Nat.le_of_ble_eq_true rfl, Nat.le_of_ble_eq_true rfl⟩) (fun ke1 q ce1 w1 H locs hk3 h hw hq hv hcl => ?_) (fun r1 w1 H locs h hw => ?_)
  · rcases h with ⟨he, h⟩ | ⟨he, h⟩
    · refine r_catch2a C htab he (by decide) (by decide) K_k_L_22 hq hv hcl ?_
      refine lv_astore (lv' := [(4, .ref q), (0, .ref (eA E 0)), (1, .int p1), (2, .int p2), (3, .ref (eA E 25))]) hx hb dL_valueOf_13 hl (by decide) rfl (fun ls hl => ?_)
      refine lv_iconst (v := 1) hx hb dL_valueOf_15 (by decide) ?_
      rw [hQ]
      refine vx_ret ?_
      refine W.widen (k := 2) (n := 12) (by decide) (by decide) ?_
      exact ret_i C hr hlk hw h dL_valueOf_16
    · refine r_catch2 C htab he (by decide) (by decide) (by decide) K_k_L_13 K_k_L_22 hq hv hcl ?_
      refine lv_astore (lv' := [(4, .ref q), (0, .ref (eA E 0)), (1, .int p1), (2, .int p2), (3, .ref (eA E 25))]) hx hb dL_valueOf_17 hl (by decide) rfl (fun ls hl => ?_)
      refine lv_iconst (v := 2) hx hb dL_valueOf_19 (by decide) ?_
      rw [hQ]
      refine vx_ret ?_
      refine W.widen (k := 2) (n := 12) (by decide) (by decide) ?_
      exact ret_i C hr hlk hw h dL_valueOf_20
  refine lv_i2l hx hb dL_valueOf_8 rfl ?_
  refine lv_topl (fun y1 ey1 => ?_)
  have h := h y1 ey1
  refine r_last C hw 25 1 (hF 25 (by decide)) (fun _ => rfl) (vp_lit (by decide)) dL_valueOf_9 (fun H locs hw => ?_)
  refine lv_goto (tgt := 21) hx hb dL_valueOf_10 (by decide) ?_
  refine lv_iconst (v := 0) hx hb dL_valueOf_21 (by decide) ?_
  rw [hQ]
  refine vx_ret ?_
  refine W.widen (k := 2) (n := 12) (by decide) (by decide) ?_
  exact ret_i C hr hlk hw h dL_valueOf_22
theorem hy_L_stepsOn : yL_stepsOn.cls ≠ "java/lang/invoke/MethodHandle" ∧ yL_stepsOn.cls ≠ "java/lang/invoke/VarHandle" ∧ (parseMethodDescriptor yL_stepsOn.desc).map (fun d => d.parameters.length) = some 3 := by decide +kernel
def wp_L_stepsOn (w : Wd) (p1 : Int32) (Post : Int32 → Wd → Prop) : Prop :=
  wp_X8_stepsOn w p1 (fun r1 w1 => ∀ y1 : Int64, y1 = r1.toInt64 → (Post 0 (sL w1 25 0 y1))) (fun ke1 w1 => ke1 = 1 ∧ (Post 1 w1))
set_option maxHeartbeats 4000000 in
set_option maxRecDepth 100000 in
theorem mt_L_stepsOn (l : Launch) (hT : l.stackTraces = false) {E : En} (hI : Inj E) (hF : ∀ o, (o < 15 ∨ 25 ≤ o ∧ o < 157) → o ∈ eL E) (w : Wd) (p1 : Int32) {Post : Int32 → Wd → Prop} (h : wp_L_stepsOn w p1 Post) : MW l E yL_stepsOn cL_stepsOn 4 (some .int) [(0, 9, 12, 22)] 8 124 1 6 [.ref (eA E 0), .int p1, .ref (eA E 25)] w Post := by
  refine MW.intro hI (by decide +kernel) (Nat.le_of_ble_eq_true rfl) ?_
  intro p e s m args below meth c Q C hr hlk htab hQ hw ls hl
  have hx := C.1
  have hb := C.2.1
  have hl : lv_has ls 4 [(0, .ref (eA E 0)), (1, .int p1), (2, .ref (eA E 25))] := hl
  unfold wp_L_stepsOn at h
  refine lv_aload_n hx hb dL_stepsOn_0 rfl (lv_at hl 2 rfl) ?_
  refine lv_iconst (v := 0) hx hb dL_stepsOn_1 (by decide) ?_
  refine lv_aload_n hx hb dL_stepsOn_2 rfl (lv_at hl 0 rfl) ?_
  refine lv_iload_n hx hb dL_stepsOn_3 rfl (lv_at hl 1 rfl) ?_
  refine done_xi hw (my_runVX (As := [.int p1]) (rest := [.int 0, .ref (eA E 25)]) C hw 0 8 (hF 0 (by decide)) rfl rfl (mt_X8_stepsOn l hT C.2.2.2.2.2.2.2 hF _ _ h) K_m_L_36 K_i_X8_stepsOn K_v_X8_stepsOn K_n_X8 K_c_X8_stepsOn hy_X8_stepsOn ⟨Nat.le_of_ble_eq_true rfl, Nat.le_of_ble_eq_true rfl⟩ hl.1 rfl (Nat.le_of_ble_eq_true rfl) dL_stepsOn_4 ⟨Nat.le_of_ble_eq_true rfl, Nat.le_of_ble_eq_true rfl⟩) (fun ke1 q ce1 w1 H locs hk3 h hw hq hv hcl => ?_) (fun r1 w1 H locs h hw => ?_)
  · obtain ⟨he, h⟩ := h
    refine r_catch1 1 C htab hk3 he (by decide) (by decide) K_k_L_22 hq hv hcl ?_
    refine lv_astore_n (lv' := [(3, .ref q), (0, .ref (eA E 0)), (1, .int p1), (2, .ref (eA E 25))]) hx hb dL_stepsOn_12 rfl hl (by decide) rfl (fun ls hl => ?_)
    refine lv_iconst (v := 1) hx hb dL_stepsOn_13 (by decide) ?_
    rw [hQ]
    refine vx_ret ?_
    refine W.widen (k := 1) (n := 6) (by decide) (by decide) ?_
    exact ret_i C hr hlk hw h dL_stepsOn_14
  refine lv_i2l hx hb dL_stepsOn_7 rfl ?_
  refine lv_topl (fun y1 ey1 => ?_)
  have h := h y1 ey1
  refine r_last C hw 25 1 (hF 25 (by decide)) (fun _ => rfl) (vp_lit (by decide)) dL_stepsOn_8 (fun H locs hw => ?_)
  refine lv_goto (tgt := 15) hx hb dL_stepsOn_9 (by decide) ?_
  refine lv_iconst (v := 0) hx hb dL_stepsOn_15 (by decide) ?_
  rw [hQ]
  refine vx_ret ?_
  refine W.widen (k := 1) (n := 6) (by decide) (by decide) ?_
  exact ret_i C hr hlk hw h dL_stepsOn_16
theorem hy_L_longest : yL_longest.cls ≠ "java/lang/invoke/MethodHandle" ∧ yL_longest.cls ≠ "java/lang/invoke/VarHandle" ∧ (parseMethodDescriptor yL_longest.desc).map (fun d => d.parameters.length) = some 3 := by decide +kernel
def wp_L_longest (w : Wd) (p1 : Int32) (Post : Int32 → Wd → Prop) : Prop :=
  wp_X8_longest w p1 (fun r1 w1 => ∀ y1 : Int64, y1 = r1.toInt64 → (Post 0 (sL w1 25 0 y1))) (fun ke1 w1 => ke1 = 1 ∧ (Post 1 w1))
set_option maxHeartbeats 4000000 in
set_option maxRecDepth 100000 in
theorem mt_L_longest (l : Launch) (hT : l.stackTraces = false) {E : En} (hI : Inj E) (hF : ∀ o, (o < 15 ∨ 25 ≤ o ∧ o < 157) → o ∈ eL E) (w : Wd) (p1 : Int32) {Post : Int32 → Wd → Prop} (h : wp_L_longest w p1 Post) : MW l E yL_longest cL_longest 4 (some .int) [(0, 9, 12, 22)] 8 124 1 6 [.ref (eA E 0), .int p1, .ref (eA E 25)] w Post := by
  refine MW.intro hI (by decide +kernel) (Nat.le_of_ble_eq_true rfl) ?_
  intro p e s m args below meth c Q C hr hlk htab hQ hw ls hl
  have hx := C.1
  have hb := C.2.1
  have hl : lv_has ls 4 [(0, .ref (eA E 0)), (1, .int p1), (2, .ref (eA E 25))] := hl
  unfold wp_L_longest at h
  refine lv_aload_n hx hb dL_longest_0 rfl (lv_at hl 2 rfl) ?_
  refine lv_iconst (v := 0) hx hb dL_longest_1 (by decide) ?_
  refine lv_aload_n hx hb dL_longest_2 rfl (lv_at hl 0 rfl) ?_
  refine lv_iload_n hx hb dL_longest_3 rfl (lv_at hl 1 rfl) ?_
  refine done_xi hw (my_runVX (As := [.int p1]) (rest := [.int 0, .ref (eA E 25)]) C hw 0 8 (hF 0 (by decide)) rfl rfl (mt_X8_longest l hT C.2.2.2.2.2.2.2 hF _ _ h) K_m_L_39 K_i_X8_longest K_v_X8_longest K_n_X8 K_c_X8_longest hy_X8_longest ⟨Nat.le_of_ble_eq_true rfl, Nat.le_of_ble_eq_true rfl⟩ hl.1 rfl (Nat.le_of_ble_eq_true rfl) dL_longest_4 ⟨Nat.le_of_ble_eq_true rfl, Nat.le_of_ble_eq_true rfl⟩) (fun ke1 q ce1 w1 H locs hk3 h hw hq hv hcl => ?_) (fun r1 w1 H locs h hw => ?_)
  · obtain ⟨he, h⟩ := h
    refine r_catch1 1 C htab hk3 he (by decide) (by decide) K_k_L_22 hq hv hcl ?_
    refine lv_astore_n (lv' := [(3, .ref q), (0, .ref (eA E 0)), (1, .int p1), (2, .ref (eA E 25))]) hx hb dL_longest_12 rfl hl (by decide) rfl (fun ls hl => ?_)
    refine lv_iconst (v := 1) hx hb dL_longest_13 (by decide) ?_
    rw [hQ]
    refine vx_ret ?_
    refine W.widen (k := 1) (n := 6) (by decide) (by decide) ?_
    exact ret_i C hr hlk hw h dL_longest_14
  refine lv_i2l hx hb dL_longest_7 rfl ?_
  refine lv_topl (fun y1 ey1 => ?_)
  have h := h y1 ey1
  refine r_last C hw 25 1 (hF 25 (by decide)) (fun _ => rfl) (vp_lit (by decide)) dL_longest_8 (fun H locs hw => ?_)
  refine lv_goto (tgt := 15) hx hb dL_longest_9 (by decide) ?_
  refine lv_iconst (v := 0) hx hb dL_longest_15 (by decide) ?_
  rw [hQ]
  refine vx_ret ?_
  refine W.widen (k := 1) (n := 6) (by decide) (by decide) ?_
  exact ret_i C hr hlk hw h dL_longest_16
theorem hy_L_positions : yL_positions.cls ≠ "java/lang/invoke/MethodHandle" ∧ yL_positions.cls ≠ "java/lang/invoke/VarHandle" ∧ (parseMethodDescriptor yL_positions.desc).map (fun d => d.parameters.length) = some 3 := by decide +kernel
def wp_L_positions (w : Wd) (p1 : Int32) (Post : Int32 → Wd → Prop) : Prop :=
  wp_X8_positions w p1 (fun r1 w1 => ∀ y1 : Int64, y1 = r1.toInt64 → (Post 0 (sL w1 25 0 y1))) (fun ke1 w1 => ke1 = 1 ∧ (Post 1 w1))
set_option maxHeartbeats 4000000 in
set_option maxRecDepth 100000 in
theorem mt_L_positions (l : Launch) (hT : l.stackTraces = false) {E : En} (hI : Inj E) (hF : ∀ o, (o < 15 ∨ 25 ≤ o ∧ o < 157) → o ∈ eL E) (w : Wd) (p1 : Int32) {Post : Int32 → Wd → Prop} (h : wp_L_positions w p1 Post) : MW l E yL_positions cL_positions 4 (some .int) [(0, 9, 12, 22)] 8 124 1 6 [.ref (eA E 0), .int p1, .ref (eA E 25)] w Post := by
  refine MW.intro hI (by decide +kernel) (Nat.le_of_ble_eq_true rfl) ?_
  intro p e s m args below meth c Q C hr hlk htab hQ hw ls hl
  have hx := C.1
  have hb := C.2.1
  have hl : lv_has ls 4 [(0, .ref (eA E 0)), (1, .int p1), (2, .ref (eA E 25))] := hl
  unfold wp_L_positions at h
  refine lv_aload_n hx hb dL_positions_0 rfl (lv_at hl 2 rfl) ?_
  refine lv_iconst (v := 0) hx hb dL_positions_1 (by decide) ?_
  refine lv_aload_n hx hb dL_positions_2 rfl (lv_at hl 0 rfl) ?_
  refine lv_iload_n hx hb dL_positions_3 rfl (lv_at hl 1 rfl) ?_
  refine done_xi hw (my_runVX (As := [.int p1]) (rest := [.int 0, .ref (eA E 25)]) C hw 0 8 (hF 0 (by decide)) rfl rfl (mt_X8_positions l hT C.2.2.2.2.2.2.2 hF _ _ h) K_m_L_42 K_i_X8_positions K_v_X8_positions K_n_X8 K_c_X8_positions hy_X8_positions ⟨Nat.le_of_ble_eq_true rfl, Nat.le_of_ble_eq_true rfl⟩ hl.1 rfl (Nat.le_of_ble_eq_true rfl) dL_positions_4 ⟨Nat.le_of_ble_eq_true rfl, Nat.le_of_ble_eq_true rfl⟩) (fun ke1 q ce1 w1 H locs hk3 h hw hq hv hcl => ?_) (fun r1 w1 H locs h hw => ?_)
  · obtain ⟨he, h⟩ := h
    refine r_catch1 1 C htab hk3 he (by decide) (by decide) K_k_L_22 hq hv hcl ?_
    refine lv_astore_n (lv' := [(3, .ref q), (0, .ref (eA E 0)), (1, .int p1), (2, .ref (eA E 25))]) hx hb dL_positions_12 rfl hl (by decide) rfl (fun ls hl => ?_)
    refine lv_iconst (v := 1) hx hb dL_positions_13 (by decide) ?_
    rw [hQ]
    refine vx_ret ?_
    refine W.widen (k := 1) (n := 6) (by decide) (by decide) ?_
    exact ret_i C hr hlk hw h dL_positions_14
  refine lv_i2l hx hb dL_positions_7 rfl ?_
  refine lv_topl (fun y1 ey1 => ?_)
  have h := h y1 ey1
  refine r_last C hw 25 1 (hF 25 (by decide)) (fun _ => rfl) (vp_lit (by decide)) dL_positions_8 (fun H locs hw => ?_)
  refine lv_goto (tgt := 15) hx hb dL_positions_9 (by decide) ?_
  refine lv_iconst (v := 0) hx hb dL_positions_15 (by decide) ?_
  rw [hQ]
  refine vx_ret ?_
  refine W.widen (k := 1) (n := 6) (by decide) (by decide) ?_
  exact ret_i C hr hlk hw h dL_positions_16
theorem hy_L_meanValue : yL_meanValue.cls ≠ "java/lang/invoke/MethodHandle" ∧ yL_meanValue.cls ≠ "java/lang/invoke/VarHandle" ∧ (parseMethodDescriptor yL_meanValue.desc).map (fun d => d.parameters.length) = some 3 := by decide +kernel
def wp_L_meanValue (w : Wd) (p1 : Int32) (Post : Int32 → Wd → Prop) : Prop :=
  wp_X8_meanValue w p1 (fun r1 w1 => Post 0 (sD w1 26 0 r1)) (fun ke1 w1 => ke1 = 1 ∧ (Post 1 w1))
set_option maxHeartbeats 4000000 in
set_option maxRecDepth 100000 in
theorem mt_L_meanValue (l : Launch) (hT : l.stackTraces = false) {E : En} (hI : Inj E) (hF : ∀ o, (o < 15 ∨ 25 ≤ o ∧ o < 157) → o ∈ eL E) (w : Wd) (p1 : Int32) {Post : Int32 → Wd → Prop} (h : wp_L_meanValue w p1 Post) : MW l E yL_meanValue cL_meanValue 4 (some .int) [(0, 8, 11, 22)] 8 146 1 6 [.ref (eA E 0), .int p1, .ref (eA E 26)] w Post := by
  refine MW.intro hI (by decide +kernel) (Nat.le_of_ble_eq_true rfl) ?_
  intro p e s m args below meth c Q C hr hlk htab hQ hw ls hl
  have hx := C.1
  have hb := C.2.1
  have hl : lv_has ls 4 [(0, .ref (eA E 0)), (1, .int p1), (2, .ref (eA E 26))] := hl
  unfold wp_L_meanValue at h
  refine lv_aload_n hx hb dL_meanValue_0 rfl (lv_at hl 2 rfl) ?_
  refine lv_iconst (v := 0) hx hb dL_meanValue_1 (by decide) ?_
  refine lv_aload_n hx hb dL_meanValue_2 rfl (lv_at hl 0 rfl) ?_
  refine lv_iload_n hx hb dL_meanValue_3 rfl (lv_at hl 1 rfl) ?_
  refine done_xd hw (my_runVX (As := [.int p1]) (rest := [.int 0, .ref (eA E 26)]) C hw 0 8 (hF 0 (by decide)) rfl rfl (mt_X8_meanValue l hT C.2.2.2.2.2.2.2 hF _ _ h) K_m_L_45 K_i_X8_meanValue K_v_X8_meanValue K_n_X8 K_c_X8_meanValue hy_X8_meanValue ⟨Nat.le_of_ble_eq_true rfl, Nat.le_of_ble_eq_true rfl⟩ hl.1 rfl (Nat.le_of_ble_eq_true rfl) dL_meanValue_4 ⟨Nat.le_of_ble_eq_true rfl, Nat.le_of_ble_eq_true rfl⟩) (fun ke1 q ce1 w1 H locs hk3 h hw hq hv hcl => ?_) (fun r1 w1 H locs h hw => ?_)
  · obtain ⟨he, h⟩ := h
    refine r_catch1 1 C htab hk3 he (by decide) (by decide) K_k_L_22 hq hv hcl ?_
    refine lv_astore_n (lv' := [(3, .ref q), (0, .ref (eA E 0)), (1, .int p1), (2, .ref (eA E 26))]) hx hb dL_meanValue_11 rfl hl (by decide) rfl (fun ls hl => ?_)
    refine lv_iconst (v := 1) hx hb dL_meanValue_12 (by decide) ?_
    rw [hQ]
    refine vx_ret ?_
    refine W.widen (k := 1) (n := 6) (by decide) (by decide) ?_
    exact ret_i C hr hlk hw h dL_meanValue_13
  refine r_dast C hw 26 1 (hF 26 (by decide)) (fun _ => rfl) (vp_lit (by decide)) dL_meanValue_7 (fun H locs hw => ?_)
  refine lv_goto (tgt := 14) hx hb dL_meanValue_8 (by decide) ?_
  refine lv_iconst (v := 0) hx hb dL_meanValue_14 (by decide) ?_
  rw [hQ]
  refine vx_ret ?_
  refine W.widen (k := 1) (n := 6) (by decide) (by decide) ?_
  exact ret_i C hr hlk hw h dL_meanValue_15
theorem hy_L_choice : yL_choice.cls ≠ "java/lang/invoke/MethodHandle" ∧ yL_choice.cls ≠ "java/lang/invoke/VarHandle" ∧ (parseMethodDescriptor yL_choice.desc).map (fun d => d.parameters.length) = some 4 := by decide +kernel
def wp_L_choice (w : Wd) (p1 : Int32) (p2 : Int32) (Post : Int32 → Wd → Prop) : Prop :=
  wp_X8_choice w p1 p2 (fun r1 w1 => ∀ y1 : Int64, y1 = r1.toInt64 → (Post 0 (sL w1 25 0 y1))) (fun ke1 w1 => (ke1 = 1 ∧ (Post 1 w1)) ∨ (ke1 = 0 ∧ (Post 2 w1)))
set_option maxHeartbeats 4000000 in
set_option maxRecDepth 100000 in
theorem mt_L_choice (l : Launch) (hT : l.stackTraces = false) {E : En} (hI : Inj E) (hF : ∀ o, (o < 15 ∨ 25 ≤ o ∧ o < 157) → o ∈ eL E) (w : Wd) (p1 : Int32) (p2 : Int32) {Post : Int32 → Wd → Prop} (h : wp_L_choice w p1 p2 Post) : MW l E yL_choice cL_choice 5 (some .int) [(0, 10, 13, 22), (0, 10, 17, 13)] 8 166 1 6 [.ref (eA E 0), .int p1, .int p2, .ref (eA E 25)] w Post := by
  refine MW.intro hI (by decide +kernel) (Nat.le_of_ble_eq_true rfl) ?_
  intro p e s m args below meth c Q C hr hlk htab hQ hw ls hl
  have hx := C.1
  have hb := C.2.1
  have hl : lv_has ls 5 [(0, .ref (eA E 0)), (1, .int p1), (2, .int p2), (3, .ref (eA E 25))] := hl
  unfold wp_L_choice at h
  refine lv_aload_n hx hb dL_choice_0 rfl (lv_at hl 3 rfl) ?_
  refine lv_iconst (v := 0) hx hb dL_choice_1 (by decide) ?_
  refine lv_aload_n hx hb dL_choice_2 rfl (lv_at hl 0 rfl) ?_
  refine lv_iload_n hx hb dL_choice_3 rfl (lv_at hl 1 rfl) ?_
  refine lv_iload_n hx hb dL_choice_4 rfl (lv_at hl 2 rfl) ?_
  refine done_xi hw (my_runVX (As := [.int p1, .int p2]) (rest := [.int 0, .ref (eA E 25)]) C hw 0 8 (hF 0 (by decide)) rfl rfl (mt_X8_choice l hT C.2.2.2.2.2.2.2 hF _ _ _ h) K_m_L_49 K_i_X8_choice K_v_X8_choice K_n_X8 K_c_X8_choice hy_X8_choice ⟨Nat.le_of_ble_eq_true rfl, Nat.le_of_ble_eq_true rfl⟩ hl.1 rfl (Nat.le_of_ble_eq_true rfl) dL_choice_5 ⟨Nat.le_of_ble_eq_true rfl, Nat.le_of_ble_eq_true rfl⟩) (fun ke1 q ce1 w1 H locs hk3 h hw hq hv hcl => ?_) (fun r1 w1 H locs h hw => ?_)
  · rcases h with ⟨he, h⟩ | ⟨he, h⟩
    · refine r_catch2a C htab he (by decide) (by decide) K_k_L_22 hq hv hcl ?_
      refine lv_astore (lv' := [(4, .ref q), (0, .ref (eA E 0)), (1, .int p1), (2, .int p2), (3, .ref (eA E 25))]) hx hb dL_choice_13 hl (by decide) rfl (fun ls hl => ?_)
      refine lv_iconst (v := 1) hx hb dL_choice_15 (by decide) ?_
      rw [hQ]
      refine vx_ret ?_
      refine W.widen (k := 1) (n := 6) (by decide) (by decide) ?_
      exact ret_i C hr hlk hw h dL_choice_16
    · refine r_catch2 C htab he (by decide) (by decide) (by decide) K_k_L_13 K_k_L_22 hq hv hcl ?_
      refine lv_astore (lv' := [(4, .ref q), (0, .ref (eA E 0)), (1, .int p1), (2, .int p2), (3, .ref (eA E 25))]) hx hb dL_choice_17 hl (by decide) rfl (fun ls hl => ?_)
      refine lv_iconst (v := 2) hx hb dL_choice_19 (by decide) ?_
      rw [hQ]
      refine vx_ret ?_
      refine W.widen (k := 1) (n := 6) (by decide) (by decide) ?_
      exact ret_i C hr hlk hw h dL_choice_20
  refine lv_i2l hx hb dL_choice_8 rfl ?_
  refine lv_topl (fun y1 ey1 => ?_)
  have h := h y1 ey1
  refine r_last C hw 25 1 (hF 25 (by decide)) (fun _ => rfl) (vp_lit (by decide)) dL_choice_9 (fun H locs hw => ?_)
  refine lv_goto (tgt := 21) hx hb dL_choice_10 (by decide) ?_
  refine lv_iconst (v := 0) hx hb dL_choice_21 (by decide) ?_
  rw [hQ]
  refine vx_ret ?_
  refine W.widen (k := 1) (n := 6) (by decide) (by decide) ?_
  exact ret_i C hr hlk hw h dL_choice_22
theorem hy_L_step : yL_step.cls ≠ "java/lang/invoke/MethodHandle" ∧ yL_step.cls ≠ "java/lang/invoke/VarHandle" ∧ (parseMethodDescriptor yL_step.desc).map (fun d => d.parameters.length) = some 5 := by decide +kernel
def wp_L_step (w : Wd) (p1 : Int32) (p2 : Int32) (p3 : Int32) (Post : Int32 → Wd → Prop) : Prop :=
  wp_X8_step w p1 p2 p3 (fun r1 w1 => ∀ y1 : Int64, y1 = r1.toInt64 → (Post 0 (sL w1 25 0 y1))) (fun ke1 w1 => ke1 = 0 ∧ (Post 1 w1))
set_option maxHeartbeats 4000000 in
set_option maxRecDepth 100000 in
theorem mt_L_step (l : Launch) (hT : l.stackTraces = false) {E : En} (hI : Inj E) (hF : ∀ o, (o < 15 ∨ 25 ≤ o ∧ o < 157) → o ∈ eL E) (w : Wd) (p1 : Int32) (p2 : Int32) (p3 : Int32) {Post : Int32 → Wd → Prop} (h : wp_L_step w p1 p2 p3 Post) : MW l E yL_step cL_step 6 (some .int) [(0, 12, 15, 13)] 7 165 1 6 [.ref (eA E 0), .int p1, .int p2, .int p3, .ref (eA E 25)] w Post := by
  refine MW.intro hI (by decide +kernel) (Nat.le_of_ble_eq_true rfl) ?_
  intro p e s m args below meth c Q C hr hlk htab hQ hw ls hl
  have hx := C.1
  have hb := C.2.1
  have hl : lv_has ls 6 [(0, .ref (eA E 0)), (1, .int p1), (2, .int p2), (3, .int p3), (4, .ref (eA E 25))] := hl
  unfold wp_L_step at h
  refine lv_aload hx hb dL_step_0 (lv_at hl 4 rfl) ?_
  refine lv_iconst (v := 0) hx hb dL_step_2 (by decide) ?_
  refine lv_aload_n hx hb dL_step_3 rfl (lv_at hl 0 rfl) ?_
  refine lv_iload_n hx hb dL_step_4 rfl (lv_at hl 1 rfl) ?_
  refine lv_iload_n hx hb dL_step_5 rfl (lv_at hl 2 rfl) ?_
  refine lv_iload_n hx hb dL_step_6 rfl (lv_at hl 3 rfl) ?_
  refine done_xi hw (my_runVX (As := [.int p1, .int p2, .int p3]) (rest := [.int 0, .ref (eA E 25)]) C hw 0 8 (hF 0 (by decide)) rfl rfl (mt_X8_step l hT C.2.2.2.2.2.2.2 hF _ _ _ _ h) K_m_L_52 K_i_X8_step K_v_X8_step K_n_X8 K_c_X8_step hy_X8_step ⟨Nat.le_of_ble_eq_true rfl, Nat.le_of_ble_eq_true rfl⟩ hl.1 rfl (Nat.le_of_ble_eq_true rfl) dL_step_7 ⟨Nat.le_of_ble_eq_true rfl, Nat.le_of_ble_eq_true rfl⟩) (fun ke1 q ce1 w1 H locs hk3 h hw hq hv hcl => ?_) (fun r1 w1 H locs h hw => ?_)
  · obtain ⟨he, h⟩ := h
    refine r_catch1 0 C htab hk3 he (by decide) (by decide) K_k_L_13 hq hv hcl ?_
    refine lv_astore (lv' := [(5, .ref q), (0, .ref (eA E 0)), (1, .int p1), (2, .int p2), (3, .int p3), (4, .ref (eA E 25))]) hx hb dL_step_15 hl (by decide) rfl (fun ls hl => ?_)
    refine lv_iconst (v := 1) hx hb dL_step_17 (by decide) ?_
    rw [hQ]
    refine vx_ret ?_
    refine W.widen (k := 1) (n := 6) (by decide) (by decide) ?_
    exact ret_i C hr hlk hw h dL_step_18
  refine lv_i2l hx hb dL_step_10 rfl ?_
  refine lv_topl (fun y1 ey1 => ?_)
  have h := h y1 ey1
  refine r_last C hw 25 1 (hF 25 (by decide)) (fun _ => rfl) (vp_lit (by decide)) dL_step_11 (fun H locs hw => ?_)
  refine lv_goto (tgt := 19) hx hb dL_step_12 (by decide) ?_
  refine lv_iconst (v := 0) hx hb dL_step_19 (by decide) ?_
  rw [hQ]
  refine vx_ret ?_
  refine W.widen (k := 1) (n := 6) (by decide) (by decide) ?_
  exact ret_i C hr hlk hw h dL_step_20
theorem hy_L_claim : yL_claim.cls ≠ "java/lang/invoke/MethodHandle" ∧ yL_claim.cls ≠ "java/lang/invoke/VarHandle" ∧ (parseMethodDescriptor yL_claim.desc).map (fun d => d.parameters.length) = some 3 := by decide +kernel
def wp_L_claim (w : Wd) (p1 : Int32) (Post : Int32 → Wd → Prop) : Prop :=
  wp_X8_claim w p1 (fun r1 w1 => ∀ y1 : Int64, y1 = r1.toInt64 → (Post 0 (sL w1 25 0 y1))) (fun ke1 w1 => ke1 = 0 ∧ (Post 1 w1))
set_option maxHeartbeats 4000000 in
set_option maxRecDepth 100000 in
theorem mt_L_claim (l : Launch) (hT : l.stackTraces = false) {E : En} (hI : Inj E) (hF : ∀ o, (o < 15 ∨ 25 ≤ o ∧ o < 157) → o ∈ eL E) (w : Wd) (p1 : Int32) {Post : Int32 → Wd → Prop} (h : wp_L_claim w p1 Post) : MW l E yL_claim cL_claim 4 (some .int) [(0, 9, 12, 13)] 7 129 1 6 [.ref (eA E 0), .int p1, .ref (eA E 25)] w Post := by
  refine MW.intro hI (by decide +kernel) (Nat.le_of_ble_eq_true rfl) ?_
  intro p e s m args below meth c Q C hr hlk htab hQ hw ls hl
  have hx := C.1
  have hb := C.2.1
  have hl : lv_has ls 4 [(0, .ref (eA E 0)), (1, .int p1), (2, .ref (eA E 25))] := hl
  unfold wp_L_claim at h
  refine lv_aload_n hx hb dL_claim_0 rfl (lv_at hl 2 rfl) ?_
  refine lv_iconst (v := 0) hx hb dL_claim_1 (by decide) ?_
  refine lv_aload_n hx hb dL_claim_2 rfl (lv_at hl 0 rfl) ?_
  refine lv_iload_n hx hb dL_claim_3 rfl (lv_at hl 1 rfl) ?_
  refine done_xi hw (my_runVX (As := [.int p1]) (rest := [.int 0, .ref (eA E 25)]) C hw 0 8 (hF 0 (by decide)) rfl rfl (mt_X8_claim l hT C.2.2.2.2.2.2.2 hF _ _ h) K_m_L_56 K_i_X8_claim K_v_X8_claim K_n_X8 K_c_X8_claim hy_X8_claim ⟨Nat.le_of_ble_eq_true rfl, Nat.le_of_ble_eq_true rfl⟩ hl.1 rfl (Nat.le_of_ble_eq_true rfl) dL_claim_4 ⟨Nat.le_of_ble_eq_true rfl, Nat.le_of_ble_eq_true rfl⟩) (fun ke1 q ce1 w1 H locs hk3 h hw hq hv hcl => ?_) (fun r1 w1 H locs h hw => ?_)
  · obtain ⟨he, h⟩ := h
    refine r_catch1 0 C htab hk3 he (by decide) (by decide) K_k_L_13 hq hv hcl ?_
    refine lv_astore_n (lv' := [(3, .ref q), (0, .ref (eA E 0)), (1, .int p1), (2, .ref (eA E 25))]) hx hb dL_claim_12 rfl hl (by decide) rfl (fun ls hl => ?_)
    refine lv_iconst (v := 1) hx hb dL_claim_13 (by decide) ?_
    rw [hQ]
    refine vx_ret ?_
    refine W.widen (k := 1) (n := 6) (by decide) (by decide) ?_
    exact ret_i C hr hlk hw h dL_claim_14
  refine lv_i2l hx hb dL_claim_7 rfl ?_
  refine lv_topl (fun y1 ey1 => ?_)
  have h := h y1 ey1
  refine r_last C hw 25 1 (hF 25 (by decide)) (fun _ => rfl) (vp_lit (by decide)) dL_claim_8 (fun H locs hw => ?_)
  refine lv_goto (tgt := 15) hx hb dL_claim_9 (by decide) ?_
  refine lv_iconst (v := 0) hx hb dL_claim_15 (by decide) ?_
  rw [hQ]
  refine vx_ret ?_
  refine W.widen (k := 1) (n := 6) (by decide) (by decide) ?_
  exact ret_i C hr hlk hw h dL_claim_16
theorem hy_L_lock : yL_lock.cls ≠ "java/lang/invoke/MethodHandle" ∧ yL_lock.cls ≠ "java/lang/invoke/VarHandle" ∧ (parseMethodDescriptor yL_lock.desc).map (fun d => d.parameters.length) = some 4 := by decide +kernel
def wp_L_lock (w : Wd) (p1 : Int32) (p2 : Int32) (Post : Int32 → Wd → Prop) : Prop :=
  wp_X8_lock w p1 p2 (fun r1 w1 => ∀ y1 : Int64, y1 = r1.toInt64 → (Post 0 (sL w1 25 0 y1))) (fun ke1 w1 => ke1 = 0 ∧ (Post 1 w1))
set_option maxHeartbeats 4000000 in
set_option maxRecDepth 100000 in
theorem mt_L_lock (l : Launch) (hT : l.stackTraces = false) {E : En} (hI : Inj E) (hF : ∀ o, (o < 15 ∨ 25 ≤ o ∧ o < 157) → o ∈ eL E) (w : Wd) (p1 : Int32) (p2 : Int32) {Post : Int32 → Wd → Prop} (h : wp_L_lock w p1 p2 Post) : MW l E yL_lock cL_lock 5 (some .int) [(0, 10, 13, 13)] 7 163 1 6 [.ref (eA E 0), .int p1, .int p2, .ref (eA E 25)] w Post := by
  refine MW.intro hI (by decide +kernel) (Nat.le_of_ble_eq_true rfl) ?_
  intro p e s m args below meth c Q C hr hlk htab hQ hw ls hl
  have hx := C.1
  have hb := C.2.1
  have hl : lv_has ls 5 [(0, .ref (eA E 0)), (1, .int p1), (2, .int p2), (3, .ref (eA E 25))] := hl
  unfold wp_L_lock at h
  refine lv_aload_n hx hb dL_lock_0 rfl (lv_at hl 3 rfl) ?_
  refine lv_iconst (v := 0) hx hb dL_lock_1 (by decide) ?_
  refine lv_aload_n hx hb dL_lock_2 rfl (lv_at hl 0 rfl) ?_
  refine lv_iload_n hx hb dL_lock_3 rfl (lv_at hl 1 rfl) ?_
  refine lv_iload_n hx hb dL_lock_4 rfl (lv_at hl 2 rfl) ?_
  refine done_xi hw (my_runVX (As := [.int p1, .int p2]) (rest := [.int 0, .ref (eA E 25)]) C hw 0 8 (hF 0 (by decide)) rfl rfl (mt_X8_lock l hT C.2.2.2.2.2.2.2 hF _ _ _ h) K_m_L_59 K_i_X8_lock K_v_X8_lock K_n_X8 K_c_X8_lock hy_X8_lock ⟨Nat.le_of_ble_eq_true rfl, Nat.le_of_ble_eq_true rfl⟩ hl.1 rfl (Nat.le_of_ble_eq_true rfl) dL_lock_5 ⟨Nat.le_of_ble_eq_true rfl, Nat.le_of_ble_eq_true rfl⟩) (fun ke1 q ce1 w1 H locs hk3 h hw hq hv hcl => ?_) (fun r1 w1 H locs h hw => ?_)
  · obtain ⟨he, h⟩ := h
    refine r_catch1 0 C htab hk3 he (by decide) (by decide) K_k_L_13 hq hv hcl ?_
    refine lv_astore (lv' := [(4, .ref q), (0, .ref (eA E 0)), (1, .int p1), (2, .int p2), (3, .ref (eA E 25))]) hx hb dL_lock_13 hl (by decide) rfl (fun ls hl => ?_)
    refine lv_iconst (v := 1) hx hb dL_lock_15 (by decide) ?_
    rw [hQ]
    refine vx_ret ?_
    refine W.widen (k := 1) (n := 6) (by decide) (by decide) ?_
    exact ret_i C hr hlk hw h dL_lock_16
  refine lv_i2l hx hb dL_lock_8 rfl ?_
  refine lv_topl (fun y1 ey1 => ?_)
  have h := h y1 ey1
  refine r_last C hw 25 1 (hF 25 (by decide)) (fun _ => rfl) (vp_lit (by decide)) dL_lock_9 (fun H locs hw => ?_)
  refine lv_goto (tgt := 17) hx hb dL_lock_10 (by decide) ?_
  refine lv_iconst (v := 0) hx hb dL_lock_17 (by decide) ?_
  rw [hQ]
  refine vx_ret ?_
  refine W.widen (k := 1) (n := 6) (by decide) (by decide) ?_
  exact ret_i C hr hlk hw h dL_lock_18
theorem hy_L_back : yL_back.cls ≠ "java/lang/invoke/MethodHandle" ∧ yL_back.cls ≠ "java/lang/invoke/VarHandle" ∧ (parseMethodDescriptor yL_back.desc).map (fun d => d.parameters.length) = some 2 := by decide +kernel
def wp_L_back (w : Wd) (Post : Int32 → Wd → Prop) : Prop :=
  wp_X8_back w (fun r1 w1 => ∀ y1 : Int64, y1 = r1.toInt64 → (Post 0 (sL w1 25 0 y1))) (fun ke1 w1 => ke1 = 2 ∧ (Post 1 w1))
set_option maxHeartbeats 4000000 in
set_option maxRecDepth 100000 in
theorem mt_L_back (l : Launch) (hT : l.stackTraces = false) {E : En} (hI : Inj E) (hF : ∀ o, (o < 15 ∨ 25 ≤ o ∧ o < 157) → o ∈ eL E) (w : Wd) {Post : Int32 → Wd → Prop} (h : wp_L_back w Post) : MW l E yL_back cL_back 3 (some .int) [(0, 8, 11, 66)] 7 162 1 6 [.ref (eA E 0), .ref (eA E 25)] w Post := by
  refine MW.intro hI (by decide +kernel) (Nat.le_of_ble_eq_true rfl) ?_
  intro p e s m args below meth c Q C hr hlk htab hQ hw ls hl
  have hx := C.1
  have hb := C.2.1
  have hl : lv_has ls 3 [(0, .ref (eA E 0)), (1, .ref (eA E 25))] := hl
  unfold wp_L_back at h
  refine lv_aload_n hx hb dL_back_0 rfl (lv_at hl 1 rfl) ?_
  refine lv_iconst (v := 0) hx hb dL_back_1 (by decide) ?_
  refine lv_aload_n hx hb dL_back_2 rfl (lv_at hl 0 rfl) ?_
  refine done_xi hw (my_runVX (As := []) (rest := [.int 0, .ref (eA E 25)]) C hw 0 8 (hF 0 (by decide)) rfl rfl (mt_X8_back l hT C.2.2.2.2.2.2.2 hF _ h) K_m_L_62 K_i_X8_back K_v_X8_back K_n_X8 K_c_X8_back hy_X8_back ⟨Nat.le_of_ble_eq_true rfl, Nat.le_of_ble_eq_true rfl⟩ hl.1 rfl (Nat.le_of_ble_eq_true rfl) dL_back_3 ⟨Nat.le_of_ble_eq_true rfl, Nat.le_of_ble_eq_true rfl⟩) (fun ke1 q ce1 w1 H locs hk3 h hw hq hv hcl => ?_) (fun r1 w1 H locs h hw => ?_)
  · obtain ⟨he, h⟩ := h
    refine r_catch1 2 C htab hk3 he (by decide) (by decide) K_k_L_66 hq hv hcl ?_
    refine lv_astore_n (lv' := [(2, .ref q), (0, .ref (eA E 0)), (1, .ref (eA E 25))]) hx hb dL_back_11 rfl hl (by decide) rfl (fun ls hl => ?_)
    refine lv_iconst (v := 1) hx hb dL_back_12 (by decide) ?_
    rw [hQ]
    refine vx_ret ?_
    refine W.widen (k := 1) (n := 6) (by decide) (by decide) ?_
    exact ret_i C hr hlk hw h dL_back_13
  refine lv_i2l hx hb dL_back_6 rfl ?_
  refine lv_topl (fun y1 ey1 => ?_)
  have h := h y1 ey1
  refine r_last C hw 25 1 (hF 25 (by decide)) (fun _ => rfl) (vp_lit (by decide)) dL_back_7 (fun H locs hw => ?_)
  refine lv_goto (tgt := 14) hx hb dL_back_8 (by decide) ?_
  refine lv_iconst (v := 0) hx hb dL_back_14 (by decide) ?_
  rw [hQ]
  refine vx_ret ?_
  refine W.widen (k := 1) (n := 6) (by decide) (by decide) ?_
  exact ret_i C hr hlk hw h dL_back_15
theorem hy_L_pass : yL_pass.cls ≠ "java/lang/invoke/MethodHandle" ∧ yL_pass.cls ≠ "java/lang/invoke/VarHandle" ∧ (parseMethodDescriptor yL_pass.desc).map (fun d => d.parameters.length) = some 2 := by decide +kernel
def wp_L_pass (w : Wd) (Post : Int32 → Wd → Prop) : Prop :=
  wp_X8_pass w (fun r1 w1 => ∀ y1 : Int64, y1 = r1.toInt64 → (Post 0 (sL w1 25 0 y1))) (fun ke1 w1 => ke1 = 2 ∧ (Post 1 w1))
set_option maxHeartbeats 4000000 in
set_option maxRecDepth 100000 in
theorem mt_L_pass (l : Launch) (hT : l.stackTraces = false) {E : En} (hI : Inj E) (hF : ∀ o, (o < 15 ∨ 25 ≤ o ∧ o < 157) → o ∈ eL E) (w : Wd) {Post : Int32 → Wd → Prop} (h : wp_L_pass w Post) : MW l E yL_pass cL_pass 3 (some .int) [(0, 8, 11, 66)] 7 102 1 6 [.ref (eA E 0), .ref (eA E 25)] w Post := by
  refine MW.intro hI (by decide +kernel) (Nat.le_of_ble_eq_true rfl) ?_
  intro p e s m args below meth c Q C hr hlk htab hQ hw ls hl
  have hx := C.1
  have hb := C.2.1
  have hl : lv_has ls 3 [(0, .ref (eA E 0)), (1, .ref (eA E 25))] := hl
  unfold wp_L_pass at h
  refine lv_aload_n hx hb dL_pass_0 rfl (lv_at hl 1 rfl) ?_
  refine lv_iconst (v := 0) hx hb dL_pass_1 (by decide) ?_
  refine lv_aload_n hx hb dL_pass_2 rfl (lv_at hl 0 rfl) ?_
  refine done_xi hw (my_runVX (As := []) (rest := [.int 0, .ref (eA E 25)]) C hw 0 8 (hF 0 (by decide)) rfl rfl (mt_X8_pass l hT C.2.2.2.2.2.2.2 hF _ h) K_m_L_68 K_i_X8_pass K_v_X8_pass K_n_X8 K_c_X8_pass hy_X8_pass ⟨Nat.le_of_ble_eq_true rfl, Nat.le_of_ble_eq_true rfl⟩ hl.1 rfl (Nat.le_of_ble_eq_true rfl) dL_pass_3 ⟨Nat.le_of_ble_eq_true rfl, Nat.le_of_ble_eq_true rfl⟩) (fun ke1 q ce1 w1 H locs hk3 h hw hq hv hcl => ?_) (fun r1 w1 H locs h hw => ?_)
  · obtain ⟨he, h⟩ := h
    refine r_catch1 2 C htab hk3 he (by decide) (by decide) K_k_L_66 hq hv hcl ?_
    refine lv_astore_n (lv' := [(2, .ref q), (0, .ref (eA E 0)), (1, .ref (eA E 25))]) hx hb dL_pass_11 rfl hl (by decide) rfl (fun ls hl => ?_)
    refine lv_iconst (v := 1) hx hb dL_pass_12 (by decide) ?_
    rw [hQ]
    refine vx_ret ?_
    refine W.widen (k := 1) (n := 6) (by decide) (by decide) ?_
    exact ret_i C hr hlk hw h dL_pass_13
  refine lv_i2l hx hb dL_pass_6 rfl ?_
  refine lv_topl (fun y1 ey1 => ?_)
  have h := h y1 ey1
  refine r_last C hw 25 1 (hF 25 (by decide)) (fun _ => rfl) (vp_lit (by decide)) dL_pass_7 (fun H locs hw => ?_)
  refine lv_goto (tgt := 14) hx hb dL_pass_8 (by decide) ?_
  refine lv_iconst (v := 0) hx hb dL_pass_14 (by decide) ?_
  rw [hQ]
  refine vx_ret ?_
  refine W.widen (k := 1) (n := 6) (by decide) (by decide) ?_
  exact ret_i C hr hlk hw h dL_pass_15
theorem hy_L_play : yL_play.cls ≠ "java/lang/invoke/MethodHandle" ∧ yL_play.cls ≠ "java/lang/invoke/VarHandle" ∧ (parseMethodDescriptor yL_play.desc).map (fun d => d.parameters.length) = some 3 := by decide +kernel
def wp_L_play (w : Wd) (p1 : Int32) (Post : Int32 → Wd → Prop) : Prop :=
  wp_X8_play w p1 (fun r1 w1 => ∀ y1 : Int64, y1 = r1.toInt64 → (Post 0 (sL w1 25 0 y1))) (fun ke1 w1 => ke1 = 0 ∧ (Post 1 w1))
set_option maxHeartbeats 4000000 in
set_option maxRecDepth 100000 in
theorem mt_L_play (l : Launch) (hT : l.stackTraces = false) {E : En} (hI : Inj E) (hF : ∀ o, (o < 15 ∨ 25 ≤ o ∧ o < 157) → o ∈ eL E) (w : Wd) (p1 : Int32) {Post : Int32 → Wd → Prop} (h : wp_L_play w p1 Post) : MW l E yL_play cL_play 4 (some .int) [(0, 9, 12, 13)] 7 170 1 6 [.ref (eA E 0), .int p1, .ref (eA E 25)] w Post := by
  refine MW.intro hI (by decide +kernel) (Nat.le_of_ble_eq_true rfl) ?_
  intro p e s m args below meth c Q C hr hlk htab hQ hw ls hl
  have hx := C.1
  have hb := C.2.1
  have hl : lv_has ls 4 [(0, .ref (eA E 0)), (1, .int p1), (2, .ref (eA E 25))] := hl
  unfold wp_L_play at h
  refine lv_aload_n hx hb dL_play_0 rfl (lv_at hl 2 rfl) ?_
  refine lv_iconst (v := 0) hx hb dL_play_1 (by decide) ?_
  refine lv_aload_n hx hb dL_play_2 rfl (lv_at hl 0 rfl) ?_
  refine lv_iload_n hx hb dL_play_3 rfl (lv_at hl 1 rfl) ?_
  refine done_xi hw (my_runVX (As := [.int p1]) (rest := [.int 0, .ref (eA E 25)]) C hw 0 8 (hF 0 (by decide)) rfl rfl (mt_X8_play l hT C.2.2.2.2.2.2.2 hF _ _ h) K_m_L_71 K_i_X8_play K_v_X8_play K_n_X8 K_c_X8_play hy_X8_play ⟨Nat.le_of_ble_eq_true rfl, Nat.le_of_ble_eq_true rfl⟩ hl.1 rfl (Nat.le_of_ble_eq_true rfl) dL_play_4 ⟨Nat.le_of_ble_eq_true rfl, Nat.le_of_ble_eq_true rfl⟩) (fun ke1 q ce1 w1 H locs hk3 h hw hq hv hcl => ?_) (fun r1 w1 H locs h hw => ?_)
  · obtain ⟨he, h⟩ := h
    refine r_catch1 0 C htab hk3 he (by decide) (by decide) K_k_L_13 hq hv hcl ?_
    refine lv_astore_n (lv' := [(3, .ref q), (0, .ref (eA E 0)), (1, .int p1), (2, .ref (eA E 25))]) hx hb dL_play_12 rfl hl (by decide) rfl (fun ls hl => ?_)
    refine lv_iconst (v := 1) hx hb dL_play_13 (by decide) ?_
    rw [hQ]
    refine vx_ret ?_
    refine W.widen (k := 1) (n := 6) (by decide) (by decide) ?_
    exact ret_i C hr hlk hw h dL_play_14
  refine lv_i2l hx hb dL_play_7 rfl ?_
  refine lv_topl (fun y1 ey1 => ?_)
  have h := h y1 ey1
  refine r_last C hw 25 1 (hF 25 (by decide)) (fun _ => rfl) (vp_lit (by decide)) dL_play_8 (fun H locs hw => ?_)
  refine lv_goto (tgt := 15) hx hb dL_play_9 (by decide) ?_
  refine lv_iconst (v := 0) hx hb dL_play_15 (by decide) ?_
  rw [hQ]
  refine vx_ret ?_
  refine W.widen (k := 1) (n := 6) (by decide) (by decide) ?_
  exact ret_i C hr hlk hw h dL_play_16

/-! Arrays.copyOf of the row, AbstractStringBuilder.ensureCapacityInternal -/
theorem hy_J7_copyOf_9075b : yJ7_copyOf_9075b.cls ≠ "java/lang/invoke/MethodHandle" ∧ yJ7_copyOf_9075b.cls ≠ "java/lang/invoke/VarHandle" ∧ (parseMethodDescriptor yJ7_copyOf_9075b.desc).map (fun d => d.parameters.length) = some 2 := by decide +kernel
def QC (E : En) (w : Wd) (n : Nat) (sz : Nat) : Array Value → State → Outcome → State → Prop := va_Qr (fun f : Nat → Int32 => f = va_cpy (gA w 16) (fun _ => 0) 0 0 (gI w 16 0).toNatClampNeg) (fun f ra t => va_P E.1 vwCl (wsE E w ++ [(ra, (.inl (eC E 1, n, .inl f) : va_E))]) t.heap ∧ va_D (AA E sz) (wsE E w ++ [(ra, (.inl (eC E 1, n, .inl f) : va_E))])) (AA E sz)
set_option maxHeartbeats 4000000 in
set_option maxRecDepth 100000 in
theorem mt_J7_copyOf_9075b (l : Launch) {E : En} (hI : Inj E) (h16 : 16 ∈ eL E) (w : Wd) (n : Nat) (hn : (gI w 16 0).toNatClampNeg < n) (hn2 : n ≤ 1024) (hfit : ∀ i, fits .byte (.int (gA w 16 i)) = true) : ME l E yJ7_copyOf_9075b cJ7_copyOf_9075b 3 (some (.array .byte)) 1 18 1 1024 [.ref (eA E 16), .int (nI n)] w (QC E w n) := by
  refine ME.intro hI (by decide +kernel) (Nat.le_of_ble_eq_true rfl) ?_
  intro p e s m args below meth c Q C hr hlk hQ hw ls hl
  have hx := C.1
  have hb := C.2.1
  have hl : lv_has ls 3 [(0, .ref (eA E 16)), (1, .int (nI n))] := hl
  refine lv_iload_n hx hb dJ7_copyOf_9075b_0 rfl (lv_at hl 1 rfl) ?_
  refine lv_aload_n hx hb dJ7_copyOf_9075b_1 rfl (lv_at hl 0 rfl) ?_
  refine r_ralen C hw h16 dJ7_copyOf_9075b_2 ?_
  refine lv_icmp_ne (tgt := 14) hx hb dJ7_copyOf_9075b_3 (by decide) (fun c1 => ?_) (fun c1 => ?_)
  · refine lv_iload_n hx hb dJ7_copyOf_9075b_14 rfl (lv_at hl 1 rfl) ?_
    obtain ⟨hP, hS⟩ := hw
    have hP : va_P E.1 vwCl (wsE E w ++ []) s.heap := by rw [List.append_nil]; exact hP
    have hD : va_D (AA E s.heap.size) (wsE E w ++ []) := by rw [List.append_nil]; exact ws_D hI
    refine ct_newa (X := wsE E w) (pl := []) C.toC hP hD hS 1 (ty := .byte) (atype := .byte) rfl K_r_FieldType_byte rfl (N := n) (a0 := (n, .inl (fun _ => 0))) (fun _ => rfl) (nI_pos (by omega)) (nI_clamp (by omega)) (by show n * 1 ≤ 536870912; omega) ⟨Nat.le_of_ble_eq_true rfl, by show 0 + n ≤ 1024; omega⟩ dJ7_copyOf_9075b_15 (fun q H hP hD hS => ?_)
    rw [List.append_nil] at hP hD
    refine lv_astore_n (lv' := [(2, .ref q), (0, .ref (eA E 16)), (1, .int (nI n))]) hx hb dJ7_copyOf_9075b_17 rfl hl (by decide) rfl (fun ls hl => ?_)
    refine lv_aload_n hx hb dJ7_copyOf_9075b_18 rfl (lv_at hl 1 rfl) ?_
    refine lv_iconst (v := 0) hx hb dJ7_copyOf_9075b_19 (by decide) ?_
    refine lv_aload_n hx hb dJ7_copyOf_9075b_20 rfl (lv_at hl 0 rfl) ?_
    refine lv_iconst (v := 0) hx hb dJ7_copyOf_9075b_21 (by decide) ?_
    refine lv_aload_n hx hb dJ7_copyOf_9075b_22 rfl (lv_at hl 1 rfl) ?_
    obtain ⟨k0, hk0⟩ := List.getElem?_of_mem h16
    have hlen : (wsE E w).length = (eL E).length := by simp [wsE]
    have hk1 : k0 < (wsE E w).length := by rw [hlen]; exact (List.getElem?_eq_some_iff.mp hk0).1
    have hold : (wsE E w ++ [(q, (.inl (eC E 1, n, .inl (fun _ => 0)) : va_E))])[k0]? = some (eA E 16, .inl (eC E 1, (gI w 16 0).toNatClampNeg, .inl (gA w 16))) := by
      rw [List.getElem?_append_left hk1, ws_i hk0]
      rfl
    have hnew : (wsE E w ++ [(q, (.inl (eC E 1, n, .inl (fun _ => 0)) : va_E))])[(wsE E w).length]? = some (q, .inl (eC E 1, n, .inl (fun _ => 0))) := by
      rw [List.getElem?_append_right (Nat.le_refl _), Nat.sub_self]
      rfl
    refine va_alen (D := E.1) hx hb C.2.2.2.2.2.1 hP k0 1 hold rfl (v := nI (gI w 16 0).toNatClampNeg) rfl dJ7_copyOf_9075b_23 ?_
    refine lv_iload_n hx hb dJ7_copyOf_9075b_24 rfl (lv_at hl 2 rfl) ?_
    refine r_min C hl.1 K_m_J7_304 ⟨Nat.le_of_ble_eq_true rfl, Nat.le_of_ble_eq_true rfl⟩ ⟨Nat.le_of_ble_eq_true rfl, by show 0 + n ≤ 1024; omega⟩ dJ7_copyOf_9075b_25 ?_
    rw [if_neg (nI_nlt (by omega) (by omega))]
    have hc1 : (nI (gI w 16 0).toNatClampNeg).toNatClampNeg = (gI w 16 0).toNatClampNeg := nI_clamp (by omega)
    refine va_copyi (D := E.1) (A := AA E s.heap.size) hx hb (C.2.2.1.trans hl.1.symm) C.2.2.2.1 (C.2.2.2.2.1 _ K_m_J7_150) (C.2.2.2.2.1 _ K_x_o_System_arraycopy_42) (C.2.2.2.2.1 _ K_s_o_System_arraycopy_42) (C.2.2.2.2.1 _ K_n_J10)
      C.2.2.2.2.2.1 hP hD hS k0 (wsE E w).length 1 1 hold hnew rfl rfl rfl (by decide) (by decide) (nI_pos (by omega)) (by rw [hc1, show (0 : Int32).toNatClampNeg = 0 from rfl]; omega) (by rw [hc1, show (0 : Int32).toNatClampNeg = 0 from rfl]; omega) (fun i _ => hfit _) (Nat.le_of_ble_eq_true rfl) (Nat.le_of_ble_eq_true rfl) dJ7_copyOf_9075b_28 (fun H1 locs1 hP hD hS => ?_)
    refine lv_aload_n hx hb dJ7_copyOf_9075b_31 rfl (lv_at hl 0 rfl) ?_
    rw [hc1, show (0 : Int32).toNatClampNeg = 0 from rfl, List.set_append_right _ _ (Nat.le_refl _), Nat.sub_self] at hP hD
    rw [hQ]
    exact W.widen (k := 1) (n := 1024) (Nat.le_refl _) (by show 0 + n ≤ 1024; omega) (W.aret hx hb hr (Or.inr ⟨_, rfl⟩) (Or.inr ⟨_, rfl⟩) (fun t ht hW => ⟨⟨_, q, rfl, rfl, (by rw [ht]; exact hP), hD⟩, hS.F ht⟩) hS.2.2 dJ7_copyOf_9075b_32 hlk)
  · exact absurd ((nI_eq (by omega) (by omega)).mp c1) (by omega)
theorem hy_J5_ensureCapacityInternal_d00df : yJ5_ensureCapacityInternal_d00df.cls ≠ "java/lang/invoke/MethodHandle" ∧ yJ5_ensureCapacityInternal_d00df.cls ≠ "java/lang/invoke/VarHandle" ∧ (parseMethodDescriptor yJ5_ensureCapacityInternal_d00df.desc).map (fun d => d.parameters.length) = some 1 := by decide +kernel
def wp_J5_ensureCapacityInternal_d00df (w : Wd) (p1 : Int32) (Post : Wd → Prop) : Prop :=
  ∀ y1 : Int32, y1 = nI (gI w 16 0).toNatClampNeg >>> (gI w 15 1 &&& 31) → (p1 - y1 ≤ 0 → Post w) ∧ (¬ p1 - y1 ≤ 0 → wp_J5_newCapacity_0f7a4 w p1 (fun r w1 => ∃ n : Nat, (r <<< (gI w1 15 1 &&& 31) = nI n ∧ (gI w1 16 0).toNatClampNeg < n ∧ n ≤ 1024 ∧ ∀ i, fits .byte (.int (gA w1 16 i)) = true) ∧ Post (sF (sI w1 16 0 (nI n)) 16 (va_cpy (gA w1 16) (fun _ => 0) 0 0 (gI w1 16 0).toNatClampNeg))))
set_option maxHeartbeats 4000000 in
set_option maxRecDepth 100000 in
theorem mt_J5_ensureCapacityInternal_d00df (l : Launch) {E : En} (hI : Inj E) (hF : ∀ o, (o = 15 ∨ o = 16) → o ∈ eL E) (w : Wd) (p1 : Int32) {Post : Wd → Prop} (h : wp_J5_ensureCapacityInternal_d00df w p1 Post) : ME l E yJ5_ensureCapacityInternal_d00df cJ5_ensureCapacityInternal_d00df 3 none 3 70 1 1024 [.ref (eA E 15), .int p1] w (QV E Post) := by
  refine ME.intro hI (by decide +kernel) (Nat.le_of_ble_eq_true rfl) ?_
  intro p e s m args below meth c Q C hr hlk hQ hw ls hl
  have hx := C.1
  have hb := C.2.1
  have h16 := hF 16 (Or.inr rfl)
  have h15 := hF 15 (Or.inl rfl)
  have hl : lv_has ls 3 [(0, .ref (eA E 15)), (1, .int p1)] := hl
  have same : ∀ (H : Heap) (locs : List Loc) (ls : Array Slot) (k n : Nat) (w1 : Wd), k ≤ 1 → n ≤ 1024 → Post w1 → Wo E s w1 H locs → W p l e (RmX 3 70 1 1024) s m args below meth c H locs k n Q (F0 m 38 ls []) := by
    intro H locs ls k n w1 hk hn hp hw
    have ha : AA E s.heap.size (eA E 16) := Or.inl ⟨16, h16, rfl⟩
    rw [hQ]
    exact ret_ev C hr hlk h16 ha (inj_self hI) ⟨by rw [up_self]; exact hw.1, hw.2.mono (fun q h => (AA_up h16 ha q).mpr h)⟩ hp ⟨hk, hn⟩ dJ5_ensureCapacityInternal_d00df_38
  refine lv_aload_n hx hb dJ5_ensureCapacityInternal_d00df_0 rfl (lv_at hl 0 rfl) ?_
  refine g9_0 C hw h15 K_f_J5_15 dJ5_ensureCapacityInternal_d00df_1 ?_
  refine r_ralen C hw h16 dJ5_ensureCapacityInternal_d00df_4 ?_
  refine lv_aload_n hx hb dJ5_ensureCapacityInternal_d00df_5 rfl (lv_at hl 0 rfl) ?_
  refine g9_1 C hw h15 K_f_J5_22 dJ5_ensureCapacityInternal_d00df_6 ?_
  refine lv_ishr hx hb dJ5_ensureCapacityInternal_d00df_9 ?_
  refine lv_topi (fun y1 ey1 => ?_)
  have h := h y1 ey1
  refine lv_istore_n (lv' := [(2, .int y1), (0, .ref (eA E 15)), (1, .int p1)]) hx hb dJ5_ensureCapacityInternal_d00df_10 rfl hl (by decide) rfl (fun ls hl => ?_)
  refine lv_iload_n hx hb dJ5_ensureCapacityInternal_d00df_11 rfl (lv_at hl 2 rfl) ?_
  refine lv_iload_n hx hb dJ5_ensureCapacityInternal_d00df_12 rfl (lv_at hl 0 rfl) ?_
  refine lv_isub hx hb dJ5_ensureCapacityInternal_d00df_13 ?_
  refine lv_if_le (tgt := 38) hx hb dJ5_ensureCapacityInternal_d00df_14 (by decide) (fun c1 => ?_) (fun c1 => ?_)
  · exact same _ _ _ _ _ w (by decide) (by decide) (h.1 c1) hw
  have h := h.2 c1
  refine lv_aload_n hx hb dJ5_ensureCapacityInternal_d00df_17 rfl (lv_at hl 1 rfl) ?_
  refine lv_aload_n hx hb dJ5_ensureCapacityInternal_d00df_18 rfl (lv_at hl 1 rfl) ?_
  refine g9_0 C hw h15 K_f_J5_15 dJ5_ensureCapacityInternal_d00df_19 ?_
  refine lv_aload_n hx hb dJ5_ensureCapacityInternal_d00df_22 rfl (lv_at hl 1 rfl) ?_
  refine lv_iload_n hx hb dJ5_ensureCapacityInternal_d00df_23 rfl (lv_at hl 2 rfl) ?_
  refine done_i hw (my_runV (As := [.int p1]) (rest := [.ref (eA E 16), .ref (eA E 15)]) C hw 15 9 h15 rfl rfl (mt_J5_newCapacity_0f7a4 l C.2.2.2.2.2.2.2 hF _ _ h) K_m_J5_104 K_i_J5_newCapacity_0f7a4 K_vs_J5_newCapacity_0f7a4 K_n_J5 K_c_J5_newCapacity_0f7a4 hy_J5_newCapacity_0f7a4 ⟨Nat.le_of_ble_eq_true rfl, Nat.le_of_ble_eq_true rfl⟩ hl.1 rfl (Nat.le_of_ble_eq_true rfl) dJ5_ensureCapacityInternal_d00df_24 ⟨Nat.zero_le _, Nat.zero_le _⟩) (fun r w1 H locs h hw => ?_)
  obtain ⟨n, ⟨e1, hn1, hn2, hfit⟩, h⟩ := h
  refine lv_aload_n hx hb dJ5_ensureCapacityInternal_d00df_27 rfl (lv_at hl 1 rfl) ?_
  refine g9_1 C hw h15 K_f_J5_22 dJ5_ensureCapacityInternal_d00df_28 ?_
  refine lv_ishl hx hb dJ5_ensureCapacityInternal_d00df_31 ?_
  rw [e1]
  refine va_callr (my_runSE (As := [.ref (eA E 16), .int (nI n)]) (rest := [.ref (eA E 15)]) C hw (mt_J7_copyOf_9075b l hI h16 w1 n hn1 hn2 hfit) K_m_J5_108 K_s_J7_copyOf_9075b K_n_J7 K_c_J7_copyOf_9075b hy_J7_copyOf_9075b ⟨Nat.le_of_ble_eq_true rfl, Nat.le_of_ble_eq_true rfl⟩ hl.1 rfl (Nat.le_of_ble_eq_true rfl) dJ5_ensureCapacityInternal_d00df_32 ⟨Nat.le_of_ble_eq_true rfl, Nat.le_of_ble_eq_true rfl⟩) hw.2 (fun q _ h => AA_mono hw.2.1 q h) (fun q h => AA_mono hw.2.1 q h) (fun u ra t H1 locs1 ht _ hp hB _ _ hS => ?_)
  obtain ⟨hP, hD⟩ := hB
  rw [ht] at hP
  subst hp
  have hD : va_D (AA E s.heap.size) (wsE E w1 ++ [(ra, (.inl (eC E 1, n, .inl (va_cpy (gA w1 16) (fun _ => 0) 0 0 (gI w1 16 0).toNatClampNeg)) : va_E))]) := hD.weaken (fun _ x _ h => AA_mono hw.2.1 _ h)
  obtain ⟨k0, hk0⟩ := List.getElem?_of_mem h15
  have hlen : (wsE E w1).length = (eL E).length := by simp [wsE]
  have hk1 : k0 < (wsE E w1).length := by rw [hlen]; exact (List.getElem?_eq_some_iff.mp hk0).1
  refine va_put (D := E.1) (A := AA E s.heap.size) (C := RJ4) (T := TJ4) (N := 4) (fs := [.ref (eA E 16), .int (gI w1 15 1), .int (gI w1 15 2), .int (gI w1 15 3)]) hx hb C.2.2.2.2.1 inB9 tyJ4 tyJ4_ok nmJ4 C.2.2.2.1 C.2.2.2.2.2.1 hP hD hS k0 (by rw [List.getElem?_append_left hk1, ws_i hk0]; rfl) (ci := 9) rfl 0 (by decide) (C.2.2.2.2.1 _ K_f_J5_15) (fun _ h => h) rfl (ty := .array .byte) rfl rfl rfl (Nat.le_of_ble_eq_true rfl) dJ5_ensureCapacityInternal_d00df_35 (fun H2 locs2 hP2 hD2 hS2 => ?_)
  obtain ⟨hI2, hP3⟩ := grow hI hk0 (by omega) hD hP2
  have ha : AA E s.heap.size ra := hD.2 (wsE E w1).length (ra, _) (by rw [List.getElem?_append_right (Nat.le_refl _), Nat.sub_self]; rfl)
  rw [hQ]
  exact ret_ev C hr hlk h16 ha hI2 (Wo.up h16 ha hP3 hS2) h ⟨Nat.le_of_ble_eq_true rfl, Nat.le_of_ble_eq_true rfl⟩ dJ5_ensureCapacityInternal_d00df_38

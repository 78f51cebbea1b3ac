/-! String.length() and String.charAt(k) of the constants: the string i < 18 lies at eT E (1 + i), its bytes at eT E (101 + i) -/
section STR
variable {E : En} {p : Program} {l : Launch} {e : Env} {R : Room} {s : State} {m : MethodId} {args : Array Value} {below : List Frame} {meth : Method} {c : Code} {H : Heap} {locs : List Loc} {cells slots : Nat} {Q : State → Prop} {cc : ByteArray} {nL pc : Nat} {own : String} {ls : Array Slot} {rest st0 : List Value} {w : Wd}
theorem ret_n {v : Int32} {ty : FieldType} {Post : Int32 → Wd → Prop} (C : Cx E p s m args c cc nL own) (hr : meth.sig.returnType = some ty) (hk : meth.locks = false) (hw : Wo E s w H locs) (hp : Post v w) (hn : narrow ty (.int v) = .int v) (hd : decode cc pc = .ok (.ireturn, 1)) : W p l e R s m args below meth c H locs cells slots (MQ below (va_Qi Post (PW E) (AA E s.heap.size)) args s cells slots (AA E s.heap.size)) (F0 m pc ls [.int v]) :=
  W.zret C.1 C.2.1 hr hn (fun t ht hW => ⟨⟨v, w, rfl, hp, show va_P _ _ _ t.heap from ht ▸ hw.1⟩, hw.2.F ht⟩) hw.2.2.2 hd hk
theorem c_vkS (C : Cx E p s m args c cc nL own) : vk_S 18 strLen strBy (fun i => eT E (1 + i)) (fun i => eT E (101 + i)) (AA E s.heap.size) s s.heap := C.2.2.2.2.2.2.1.2.2.2.2.2.2.2.1
theorem c_vkR (C : Cx E p s m args c cc nL own) : ∀ q ∈ strK, vk_R q.1 q.2.1 (strTx.getD q.2.2 "") (eT E (1 + q.2.2)) s := C.2.2.2.2.2.2.1.2.2.2.2.2.2.2.2.1
theorem my_runVS {y : MethodName} {bytes : ByteArray} {mL index fr lo : Nat} {ret : Option FieldType} {As : List Value} {Qx : Nat → Array Value → State → Outcome → State → Prop} (C : Cx E p s m args c cc nL own) (hw : Wo E s w H locs) (i : Nat) (hi : i < 18)
    (hM : MG l E y bytes mL ret fr lo (.ref (eT E (1 + i)) :: As) w Qx) (g1 : Cond.methodLink own index y ∈ BIG) (g2 : Cond.instanceMethod y ∈ BIG) (g3 : Cond.selects "java/lang/String" y y ∈ BIG) (g4 : Cond.initialized y.cls ∈ BIG) (g5 : Cond.code y bytes mL ret ∈ BIG)
    (hy : y.cls ≠ "java/lang/invoke/MethodHandle" ∧ y.cls ≠ "java/lang/invoke/VarHandle" ∧ (parseMethodDescriptor y.desc).map (fun d => d.parameters.length) = some As.length) (hR : fr + 1 ≤ R.frames ∧ 8 + (mL + 11) + lo ≤ R.locals) (hsz : ls.size = nL) (hst : st0 = As.reverse ++ .ref (eT E (1 + i)) :: rest) (hc : (rest.map fun v => v.category).sum ≤ 8)
    (hd : decode cc pc = .ok (.invokevirtual index, 3)) (hf : cells ≤ R.cells ∧ slots ≤ R.slots) : va_Run p l e R s m args below meth c H locs cells slots 0 0 (F0 m pc ls st0) rest (Qx H.size (Value.ref (eT E (1 + i)) :: As).toArray) (AA E H.size) :=
  va_runV (As := As) (rest := rest) (C := "java/lang/String") (b := eT E (1 + i)) ⟨C.1, C.2.1, C.2.2.1, C.2.2.2.1, C.2.2.2.2.1⟩ (hM H.size) ⟨my_CallB C g1 g4 g5 hy hR, C.2.2.2.2.1 _ g2, C.2.2.2.2.1 _ g3⟩
    ⟨Pr_blind _ _ _ _, vk_recv (i := i) (c_vkS C) hi hw.2, my_pre C hw _⟩ rfl rfl hsz hst (lv_room hc) hd hf
theorem r_ldcS (C : Cx E p s m args c cc nL own) (i : Nat) {index : Nat} (hq : (own, index, i) ∈ strK) (hd : decode cc pc = .ok (.ldc index, 2))
    (kk : W p l e R s m args below meth c H locs cells slots Q (F0 m (pc + 2) ls (.ref (eT E (1 + i)) :: rest))) : W p l e R s m args below meth c H locs cells slots Q (F0 m pc ls rest) :=
  va_ldcS C.1 C.2.1 C.2.2.2.1 (c_vkR C _ hq) hd kk
end STR
theorem hy_J0_coder : yJ0_coder_7d493.cls ≠ "java/lang/invoke/MethodHandle" ∧ yJ0_coder_7d493.cls ≠ "java/lang/invoke/VarHandle" ∧ (parseMethodDescriptor yJ0_coder_7d493.desc).map (fun d => d.parameters.length) = some 0 := by decide +kernel
theorem hy_J0_isLatin1 : yJ0_isLatin1_aae02.cls ≠ "java/lang/invoke/MethodHandle" ∧ yJ0_isLatin1_aae02.cls ≠ "java/lang/invoke/VarHandle" ∧ (parseMethodDescriptor yJ0_isLatin1_aae02.desc).map (fun d => d.parameters.length) = some 0 := by decide +kernel
theorem hy_J0_length : yJ0_length_8abf5.cls ≠ "java/lang/invoke/MethodHandle" ∧ yJ0_length_8abf5.cls ≠ "java/lang/invoke/VarHandle" ∧ (parseMethodDescriptor yJ0_length_8abf5.desc).map (fun d => d.parameters.length) = some 0 := by decide +kernel
theorem hy_J0_charAt : yJ0_charAt_5068e.cls ≠ "java/lang/invoke/MethodHandle" ∧ yJ0_charAt_5068e.cls ≠ "java/lang/invoke/VarHandle" ∧ (parseMethodDescriptor yJ0_charAt_5068e.desc).map (fun d => d.parameters.length) = some 1 := by decide +kernel
theorem hy_J0_checkIndex : yJ0_checkIndex_df160.cls ≠ "java/lang/invoke/MethodHandle" ∧ yJ0_checkIndex_df160.cls ≠ "java/lang/invoke/VarHandle" ∧ (parseMethodDescriptor yJ0_checkIndex_df160.desc).map (fun d => d.parameters.length) = some 2 := by decide +kernel
theorem hy_J1_charAt : yJ1_charAt_3b067.cls ≠ "java/lang/invoke/MethodHandle" ∧ yJ1_charAt_3b067.cls ≠ "java/lang/invoke/VarHandle" ∧ (parseMethodDescriptor yJ1_charAt_3b067.desc).map (fun d => d.parameters.length) = some 2 := by decide +kernel
theorem hy_J3_checkIndex : yJ3_checkIndex_8e157.cls ≠ "java/lang/invoke/MethodHandle" ∧ yJ3_checkIndex_8e157.cls ≠ "java/lang/invoke/VarHandle" ∧ (parseMethodDescriptor yJ3_checkIndex_8e157.desc).map (fun d => d.parameters.length) = some 3 := by decide +kernel
set_option maxHeartbeats 4000000 in
set_option maxRecDepth 100000 in
theorem mt_J0_coder (l : Launch) {E : En} (hI : Inj E) (i : Nat) (hi : i < 18) (w : Wd) {Post : Int32 → Wd → Prop} (h : Post 0 w) : MI l E yJ0_coder_7d493 cJ0_coder_7d493 1 (some .byte) 0 0 [.ref (eT E (1 + i))] w Post := by
  refine MG.intro hI (by decide +kernel) (Nat.le_of_ble_eq_true rfl) ?_
  intro p e s m args below meth c Q C hr hlk hQ hw ls hl
  have hx := C.1
  have hb := C.2.1
  have hl : lv_has ls 1 [(0, .ref (eT E (1 + i)))] := hl
  refine va_gets hx hb C.2.2.2.2.2.2.1.2.2.2.2.2.1 hw.2 C.2.2.2.1 (C.2.2.2.2.1 _ K_f_J0_38) (fun _ h => h) dJ0_coder_7d493_0 ?_
  refine lv_if_eq (tgt := 13) hx hb dJ0_coder_7d493_3 (by decide) (fun c1 => ?_) (fun c1 => ?_)
  · exact absurd c1 (by decide)
  refine lv_aload_n hx hb dJ0_coder_7d493_6 rfl (lv_at hl 0 rfl) ?_
  refine vk_getf hx hb ((c_vkS C).1 i hi).2.1 hw.2 C.2.2.2.1 (C.2.2.2.2.1 _ K_f_J0_15) (fun _ h => h) dJ0_coder_7d493_7 ?_
  refine lv_goto (tgt := 14) hx hb dJ0_coder_7d493_10 (by decide) ?_
  rw [hQ]
  exact ret_n C hr hlk hw h rfl dJ0_coder_7d493_14
set_option maxHeartbeats 4000000 in
set_option maxRecDepth 100000 in
theorem mt_J0_isLatin1 (l : Launch) {E : En} (hI : Inj E) (i : Nat) (hi : i < 18) (w : Wd) {Post : Int32 → Wd → Prop} (h : Post 1 w) : MI l E yJ0_isLatin1_aae02 cJ0_isLatin1_aae02 1 (some .boolean) 0 0 [.ref (eT E (1 + i))] w Post := by
  refine MG.intro hI (by decide +kernel) (Nat.le_of_ble_eq_true rfl) ?_
  intro p e s m args below meth c Q C hr hlk hQ hw ls hl
  have hx := C.1
  have hb := C.2.1
  have hl : lv_has ls 1 [(0, .ref (eT E (1 + i)))] := hl
  refine va_gets hx hb C.2.2.2.2.2.2.1.2.2.2.2.2.1 hw.2 C.2.2.2.1 (C.2.2.2.2.1 _ K_f_J0_38) (fun _ h => h) dJ0_isLatin1_aae02_0 ?_
  refine lv_if_eq (tgt := 17) hx hb dJ0_isLatin1_aae02_3 (by decide) (fun c1 => ?_) (fun c1 => ?_)
  · exact absurd c1 (by decide)
  refine lv_aload_n hx hb dJ0_isLatin1_aae02_6 rfl (lv_at hl 0 rfl) ?_
  refine vk_getf hx hb ((c_vkS C).1 i hi).2.1 hw.2 C.2.2.2.1 (C.2.2.2.2.1 _ K_f_J0_15) (fun _ h => h) dJ0_isLatin1_aae02_7 ?_
  refine lv_if_ne (tgt := 17) hx hb dJ0_isLatin1_aae02_10 (by decide) (fun c1 => ?_) (fun c1 => ?_)
  · exact absurd rfl c1
  refine lv_iconst (v := 1) hx hb dJ0_isLatin1_aae02_13 (by decide) ?_
  refine lv_goto (tgt := 18) hx hb dJ0_isLatin1_aae02_14 (by decide) ?_
  rw [hQ]
  exact ret_z C hr hlk hw h (by decide) dJ0_isLatin1_aae02_18
def wp_J0_length_8abf5 (i : Nat) (w : Wd) (Post : Int32 → Wd → Prop) : Prop := Post (nI (strLen.getD i 0)) w
set_option maxHeartbeats 4000000 in
set_option maxRecDepth 100000 in
theorem mt_J0_length_8abf5 (l : Launch) {E : En} (hI : Inj E) (i : Nat) (hi : i < 18) (w : Wd) {Post : Int32 → Wd → Prop} (h : wp_J0_length_8abf5 i w Post) : MI l E yJ0_length_8abf5 cJ0_length_8abf5 1 (some .int) 1 20 [.ref (eT E (1 + i))] w Post := by
  refine MG.intro hI (by decide +kernel) (Nat.le_of_ble_eq_true rfl) ?_
  intro p e s m args below meth c Q C hr hlk hQ hw ls hl
  have hx := C.1
  have hb := C.2.1
  have hl : lv_has ls 1 [(0, .ref (eT E (1 + i)))] := hl
  refine lv_aload_n hx hb dJ0_length_8abf5_0 rfl (lv_at hl 0 rfl) ?_
  refine vk_getf hx hb ((c_vkS C).1 i hi).2.2.1 hw.2 C.2.2.2.1 (C.2.2.2.2.1 _ K_f_J0_9) (fun _ h => h) dJ0_length_8abf5_1 ?_
  refine va_tlen hx hb ((c_vkS C).1 i hi).2.2.2 hw.2 rfl dJ0_length_8abf5_4 ?_
  refine lv_aload_n hx hb dJ0_length_8abf5_5 rfl (lv_at hl 0 rfl) ?_
  refine done_i hw (my_runVS (As := []) (rest := [.int (Int32.ofNat (strLen.getD i 0))]) C hw i hi (mt_J0_coder l hI i hi w (Post := fun r w1 => r = 0 ∧ w1 = w) ⟨rfl, rfl⟩) K_m_J0_335 K_i_J0_coder_7d493 K_v_J0_coder_7d493 K_n_J0 K_c_J0_coder_7d493 hy_J0_coder ⟨Nat.le_of_ble_eq_true rfl, Nat.le_of_ble_eq_true rfl⟩ hl.1 rfl (Nat.le_of_ble_eq_true rfl) dJ0_length_8abf5_6 ⟨Nat.zero_le _, Nat.zero_le _⟩) (fun r1 w1 H locs h1 hw => ?_)
  rw [h1.2] at hw
  rw [h1.1]
  refine lv_ishr hx hb dJ0_length_8abf5_9 ?_
  rw [hQ]
  exact ret_i C hr hlk hw (by rw [sb_shr0]; exact h) dJ0_length_8abf5_10
set_option maxHeartbeats 4000000 in
set_option maxRecDepth 100000 in
theorem mt_J3_checkIndex (l : Launch) {E : En} (hI : Inj E) (w : Wd) (x : Int32) (n : Nat) (hn : n < 2 ^ 31) (hc : vp_in x n) (f : Option Nat) {Post : Int32 → Wd → Prop} (h : Post x w) : MI l E yJ3_checkIndex_8e157 cJ3_checkIndex_8e157 3 (some .int) 0 0 [.int x, .int (nI n), va_rf f] w Post := by
  obtain ⟨j, hj, rfl⟩ := vp_in_of hc hn
  have hlt : nI j < nI n := nI_lt hj hn
  have hge : ¬ nI j < 0 := nI_pos (by omega)
  cases f with
  | none =>
    refine MG.intro hI (by decide +kernel) (Nat.le_of_ble_eq_true rfl) ?_
    intro p e s m args below meth c Q C hr hlk hQ hw ls hl
    have hx := C.1
    have hb := C.2.1
    have hl : lv_has ls 3 [(0, .int (nI j)), (1, .int (nI n)), (2, .null)] := hl
    refine lv_iload_n hx hb dJ3_checkIndex_8e157_0 rfl (lv_at hl 0 rfl) ?_
    refine lv_if_lt (tgt := 9) hx hb dJ3_checkIndex_8e157_1 (by decide) (fun c1 => absurd c1 hge) (fun c1 => ?_)
    refine lv_iload_n hx hb dJ3_checkIndex_8e157_4 rfl (lv_at hl 0 rfl) ?_
    refine lv_iload_n hx hb dJ3_checkIndex_8e157_5 rfl (lv_at hl 1 rfl) ?_
    refine lv_icmp_lt (tgt := 16) hx hb dJ3_checkIndex_8e157_6 (by decide) (fun c1 => ?_) (fun c1 => absurd hlt c1)
    refine lv_iload_n hx hb dJ3_checkIndex_8e157_16 rfl (lv_at hl 0 rfl) ?_
    rw [hQ]
    exact ret_i C hr hlk hw h dJ3_checkIndex_8e157_17
  | some t =>
    refine MG.intro hI (by decide +kernel) (Nat.le_of_ble_eq_true rfl) ?_
    intro p e s m args below meth c Q C hr hlk hQ hw ls hl
    have hx := C.1
    have hb := C.2.1
    have hl : lv_has ls 3 [(0, .int (nI j)), (1, .int (nI n)), (2, .ref t)] := hl
    refine lv_iload_n hx hb dJ3_checkIndex_8e157_0 rfl (lv_at hl 0 rfl) ?_
    refine lv_if_lt (tgt := 9) hx hb dJ3_checkIndex_8e157_1 (by decide) (fun c1 => absurd c1 hge) (fun c1 => ?_)
    refine lv_iload_n hx hb dJ3_checkIndex_8e157_4 rfl (lv_at hl 0 rfl) ?_
    refine lv_iload_n hx hb dJ3_checkIndex_8e157_5 rfl (lv_at hl 1 rfl) ?_
    refine lv_icmp_lt (tgt := 16) hx hb dJ3_checkIndex_8e157_6 (by decide) (fun c1 => ?_) (fun c1 => absurd hlt c1)
    refine lv_iload_n hx hb dJ3_checkIndex_8e157_16 rfl (lv_at hl 0 rfl) ?_
    rw [hQ]
    exact ret_i C hr hlk hw h dJ3_checkIndex_8e157_17
set_option maxHeartbeats 4000000 in
set_option maxRecDepth 100000 in
theorem mt_J0_checkIndex (l : Launch) {E : En} (hI : Inj E) (w : Wd) (x : Int32) (n : Nat) (hn : n < 2 ^ 31) (hc : vp_in x n) {Post : Wd → Prop} (h : Post w) : MV l E yJ0_checkIndex_df160 cJ0_checkIndex_df160 2 none 1 22 [.int x, .int (nI n)] w Post := by
  refine MG.intro hI (by decide +kernel) (Nat.le_of_ble_eq_true rfl) ?_
  intro p e s m args below meth c Q C hr hlk hQ hw ls hl
  have hx := C.1
  have hb := C.2.1
  have hl : lv_has ls 2 [(0, .int x), (1, .int (nI n))] := hl
  refine lv_iload_n hx hb dJ0_checkIndex_df160_0 rfl (lv_at hl 0 rfl) ?_
  refine lv_iload_n hx hb dJ0_checkIndex_df160_1 rfl (lv_at hl 1 rfl) ?_
  have key : ∀ f : Option Nat, W p l e (Rm 1 22) s m args below meth c s.heap [] 0 0 Q (F0 m 5 ls [va_rf f, .int (nI n), .int x]) := by
    intro f
    refine done_i hw (my_runS (As := [.int x, .int (nI n), va_rf f]) (rest := []) C hw (mt_J3_checkIndex l hI w x n hn hc f (Post := fun _ w1 => w1 = w) rfl) K_m_J0_1059 K_s_J3_checkIndex_8e157 K_n_J3 K_c_J3_checkIndex_8e157 hy_J3_checkIndex ⟨Nat.le_of_ble_eq_true rfl, Nat.le_of_ble_eq_true rfl⟩ hl.1 rfl (Nat.le_of_ble_eq_true rfl) dJ0_checkIndex_df160_5 ⟨Nat.zero_le _, Nat.zero_le _⟩) (fun r1 w1 H locs h1 hw => ?_)
    rw [h1] at hw
    refine lv_pop hx hb dJ0_checkIndex_df160_8 rfl ?_
    rw [hQ]
    exact ret_v C hr hlk hw h dJ0_checkIndex_df160_9
  rcases C.2.2.2.2.2.2.1.2.2.2.2.2.2.1 with hz | ⟨t, hz⟩
  · exact va_gets hx hb hz hw.2 C.2.2.2.1 (C.2.2.2.2.1 _ K_f_J0_1053) (fun _ h => h) dJ0_checkIndex_df160_2 (key none)
  · exact va_gets hx hb hz hw.2 C.2.2.2.1 (C.2.2.2.2.1 _ K_f_J0_1053) (fun _ h => h) dJ0_checkIndex_df160_2 (key (some t))
theorem str_ok : ∀ i, i < 18 → strLen.getD i 0 = (strBy.getD i []).length ∧ (strBy.getD i []).length < 2 ^ 31 ∧ ∀ b ∈ strBy.getD i [], b.toInt8.toInt32 = b := by decide +kernel
theorem nI_of_ofNat (n : Nat) : Int32.ofNat n = nI n := rfl
set_option maxHeartbeats 4000000 in
set_option maxRecDepth 100000 in
theorem mt_J1_charAt (l : Launch) {E : En} (hI : Inj E) (i : Nat) (hi : i < 18) (w : Wd) (x : Int32) (hc : vp_in x (strLen.getD i 0)) {Post : Int32 → Wd → Prop} (h : Post ((strBy.getD i []).getD x.toNatClampNeg 0 &&& 255) w) : MI l E yJ1_charAt_3b067 cJ1_charAt_3b067 2 (some .char) 2 43 [.ref (eT E (101 + i)), .int x] w Post := by
  have hlen : strLen.getD i 0 < 2 ^ 31 := by rw [(str_ok i hi).1]; exact (str_ok i hi).2.1
  refine MG.intro hI (by decide +kernel) (Nat.le_of_ble_eq_true rfl) ?_
  intro p e s m args below meth c Q C hr hlk hQ hw ls hl
  have hx := C.1
  have hb := C.2.1
  have hl : lv_has ls 2 [(0, .ref (eT E (101 + i))), (1, .int x)] := hl
  refine lv_iload_n hx hb dJ1_charAt_3b067_0 rfl (lv_at hl 1 rfl) ?_
  refine lv_aload_n hx hb dJ1_charAt_3b067_1 rfl (lv_at hl 0 rfl) ?_
  refine va_tlen hx hb ((c_vkS C).1 i hi).2.2.2 hw.2 (v := nI (strLen.getD i 0)) rfl dJ1_charAt_3b067_2 ?_
  refine done_v hw (my_runS (As := [.int x, .int (nI (strLen.getD i 0))]) (rest := []) C hw (mt_J0_checkIndex l hI w x (strLen.getD i 0) hlen hc (Post := fun w1 => w1 = w) rfl) K_m_J1_9 K_s_J0_checkIndex_df160 K_n_J0 K_c_J0_checkIndex_df160 hy_J0_checkIndex ⟨Nat.le_of_ble_eq_true rfl, Nat.le_of_ble_eq_true rfl⟩ hl.1 rfl (Nat.le_of_ble_eq_true rfl) dJ1_charAt_3b067_3 ⟨Nat.zero_le _, Nat.zero_le _⟩) (fun w1 H locs h1 hw => ?_)
  rw [h1] at hw
  refine lv_aload_n hx hb dJ1_charAt_3b067_6 rfl (lv_at hl 0 rfl) ?_
  refine lv_iload_n hx hb dJ1_charAt_3b067_7 rfl (lv_at hl 1 rfl) ?_
  refine va_tb hx hb ((c_vkS C).1 i hi).2.2.2 hw.2 hc rfl dJ1_charAt_3b067_8 ?_
  refine lv_sipush (v := 255) hx hb dJ1_charAt_3b067_9 (by decide) ?_
  refine lv_iand hx hb dJ1_charAt_3b067_12 ?_
  refine lv_i2c (v := (strBy.getD i []).getD x.toNatClampNeg 0 &&& 255) hx hb dJ1_charAt_3b067_13 (sc_c2 _) ?_
  rw [hQ]
  exact ret_n C hr hlk hw h (sc_nar _) dJ1_charAt_3b067_14
def wp_J0_charAt_5068e (i : Nat) (w : Wd) (x : Int32) (Post : Int32 → Wd → Prop) : Prop := vp_in x (strLen.getD i 0) ∧ Post ((strBy.getD i []).getD x.toNatClampNeg 0 &&& 255) w
set_option maxHeartbeats 4000000 in
set_option maxRecDepth 100000 in
theorem mt_J0_charAt_5068e (l : Launch) {E : En} (hI : Inj E) (i : Nat) (hi : i < 18) (w : Wd) (x : Int32) {Post : Int32 → Wd → Prop} (h : wp_J0_charAt_5068e i w x Post) : MI l E yJ0_charAt_5068e cJ0_charAt_5068e 2 (some .char) 3 64 [.ref (eT E (1 + i)), .int x] w Post := by
  obtain ⟨hc, h⟩ := h
  refine MG.intro hI (by decide +kernel) (Nat.le_of_ble_eq_true rfl) ?_
  intro p e s m args below meth c Q C hr hlk hQ hw ls hl
  have hx := C.1
  have hb := C.2.1
  have hl : lv_has ls 2 [(0, .ref (eT E (1 + i))), (1, .int x)] := hl
  refine lv_aload_n hx hb dJ0_charAt_5068e_0 rfl (lv_at hl 0 rfl) ?_
  refine done_i hw (my_runVS (As := []) (rest := []) C hw i hi (mt_J0_isLatin1 l hI i hi w (Post := fun r w1 => r = 1 ∧ w1 = w) ⟨rfl, rfl⟩) K_m_J0_492 K_i_J0_isLatin1_aae02 K_v_J0_isLatin1_aae02 K_n_J0 K_c_J0_isLatin1_aae02 hy_J0_isLatin1 ⟨Nat.le_of_ble_eq_true rfl, Nat.le_of_ble_eq_true rfl⟩ hl.1 rfl (Nat.le_of_ble_eq_true rfl) dJ0_charAt_5068e_1 ⟨Nat.zero_le _, Nat.zero_le _⟩) (fun r1 w1 H locs h1 hw => ?_)
  rw [h1.2] at hw
  rw [h1.1]
  refine lv_if_eq (tgt := 16) hx hb dJ0_charAt_5068e_4 (by decide) (fun c1 => ?_) (fun c1 => ?_)
  · exact absurd c1 (by decide)
  refine lv_aload_n hx hb dJ0_charAt_5068e_7 rfl (lv_at hl 0 rfl) ?_
  refine vk_getf hx hb ((c_vkS C).1 i hi).2.2.1 hw.2 C.2.2.2.1 (C.2.2.2.2.1 _ K_f_J0_9) (fun _ h => h) dJ0_charAt_5068e_8 ?_
  refine lv_iload_n hx hb dJ0_charAt_5068e_11 rfl (lv_at hl 1 rfl) ?_
  refine done_i hw (my_runS (As := [.ref (eT E (101 + i)), .int x]) (rest := []) C hw (mt_J1_charAt l hI i hi w x hc (Post := fun r w2 => r = ((strBy.getD i []).getD x.toNatClampNeg 0 &&& 255) ∧ w2 = w) ⟨rfl, rfl⟩) K_m_J0_495 K_s_J1_charAt_3b067 K_n_J1 K_c_J1_charAt_3b067 hy_J1_charAt ⟨Nat.le_of_ble_eq_true rfl, Nat.le_of_ble_eq_true rfl⟩ hl.1 rfl (Nat.le_of_ble_eq_true rfl) dJ0_charAt_5068e_12 ⟨Nat.zero_le _, Nat.zero_le _⟩) (fun r1 w2 H locs h1 hw => ?_)
  rw [h1.2] at hw
  rw [h1.1, hQ]
  exact ret_n C hr hlk hw h (sc_nar _) dJ0_charAt_5068e_15

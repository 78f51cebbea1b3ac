/-! the law's own methods -/
theorem ws_off {E : En} {w w' : Wd} (h : ∀ o, o ∈ eL E → ce E w' o = ce E w o) : wsE E w' = wsE E w := by
  unfold wsE
  exact List.map_congr_left (fun o ho => by rw [h o ho])
theorem Wo.sL {E : En} {s : State} {w : Wd} {H : Heap} {locs : List Loc} (hN : ∀ o, o ∈ eL E → o ≠ 25 ∧ o ≠ 26) (hw : Wo E s w H locs) {x : Int64} : Wo E s (sL w 25 0 x) H locs := ⟨by rw [ws_off (fun o ho => ce_sL (hN o ho).1)]; exact hw.1, hw.2⟩
theorem Wo.sD {E : En} {s : State} {w : Wd} {H : Heap} {locs : List Loc} (hN : ∀ o, o ∈ eL E → o ≠ 25 ∧ o ≠ 26) (hw : Wo E s w H locs) {x : UInt64} : Wo E s (sD w 26 0 x) H locs := ⟨by rw [ws_off (fun o ho => ce_sD (hN o ho).2)]; exact hw.1, hw.2⟩
theorem gL_25 (w : Wd) (r : Int32) : (gL (sL w 25 0 r.toInt64) 25 0).toInt32 = r := by
  rw [gL_sL, if_pos ⟨rfl, rfl⟩]
  simp
theorem gD_26 (w : Wd) (r : UInt64) : gD (sD w 26 0 r) 26 0 = r := by
  rw [gD_sD, if_pos ⟨rfl, rfl⟩]
section LWM
variable {E : En} {p : Program} {l : Launch} {e : Env} {R : Room} {s : State} {m : MethodId} {args : Array Value} {below : List Frame} {meth : Method} {c : Code} {H : Heap} {locs : List Loc} {cells slots : Nat} {Q : State → Prop} {cc : ByteArray} {nL pc : Nat} {own : String} {ls : Array Slot} {rest st0 : List Value} {w : Wd}
theorem done_iE {Post : Int32 → Wd → Prop} {a : Array Value} {mc ms : Nat} (hw : Wo E s w H locs) (hr : va_Run p l e R s m args below meth c H locs cells slots mc ms (F0 m pc ls st0) rest (va_Qi Post (PW E) (AA E H.size) a) (AA E H.size))
    (kk : ∀ (r : Int32) (w1 : Wd) (H1 : Heap) (locs1 : List Loc), Post r w1 → Wo E s w1 H1 locs1 → W p l e R s m args below meth c H1 locs1 (cells + mc) (slots + ms) Q (F0 m (pc + 3) ls (.int r :: rest))) : W p l e R s m args below meth c H locs cells slots Q (F0 m pc ls st0) :=
  va_calli hr hw.2 (fun q _ h => AA_mono hw.2.1 q h) (fun q h => AA_mono hw.2.1 q h) (fun r u t H1 locs1 ht _ hp hB _ _ hS => kk r u H1 locs1 hp ⟨ht ▸ hB, hS⟩)
theorem my_runSW {y : MethodName} {bytes : ByteArray} {mL index fr lo mc ms : Nat} {ret : Option FieldType} {hh : List (Nat × Nat × Nat × Nat)} {As : List Value} {Post : Int32 → Wd → Prop} (C : Cx E p s m args c cc nL own) (hw : Wo E s w H locs)
    (hM : MW l E y bytes mL ret hh fr lo mc ms As w Post) (g1 : Cond.methodLink own index y ∈ BIG) (g2 : Cond.static y ∈ BIG) (g4 : Cond.initialized y.cls ∈ BIG) (g5 : Cond.codeWith y bytes mL ret hh ∈ BIG)
    (hy : y.cls ≠ "java/lang/invoke/MethodHandle" ∧ y.cls ≠ "java/lang/invoke/VarHandle" ∧ (parseMethodDescriptor y.desc).map (fun d => d.parameters.length) = some As.length) (hR : fr + 1 ≤ R.frames ∧ 8 + (mL + 11) + lo ≤ R.locals) (hsz : ls.size = nL) (hst : st0 = As.reverse ++ rest) (hc : (rest.map fun v => v.category).sum ≤ 8)
    (hd : decode cc pc = .ok (.invokestatic index, 3)) (hf : cells + mc ≤ R.cells ∧ slots + ms ≤ R.slots) : vx_Run p l e R s m args below meth c H locs cells slots mc ms (F0 m pc ls st0) rest (va_Qi Post (PW E) (AA E H.size) As.toArray) (XE E (fun _ _ => False) H.size) (AA E H.size) := by
  have hts := C.2.2.2.2.1
  refine vx_runSX (As := As) (rest := rest) (hh := hh) ⟨C.1, C.2.1, C.2.2.1, C.2.2.2.1, C.2.2.2.2.1⟩ (hM H.size) ⟨⟨rfl, rfl, hR.1, hR.2, fun x hx a' U hW => ?_, List.mem_cons_self⟩, hts _ g5, hts _ g4, ⟨hy.1, hy.2.1⟩, fun sig h => ?_, hts _ g1, hts _ g2⟩ ⟨Pr_blind _ _ _ _, my_pre C hw _⟩ rfl rfl hsz hst (lv_room hc) hd hf
  · rcases List.mem_cons.mp hx with rfl | h
    · exact word_at hW (big_good g5) (hts _ g5)
    · exact word_at hW (big_good h) (hts _ h)
  · have h2 := hy.2.2
    rw [h] at h2
    exact (Option.some.inj h2).symm
theorem done_w {Post : Int32 → Wd → Prop} {a : Array Value} {mc ms : Nat} (hw : Wo E s w H locs) (hr : vx_Run p l e R s m args below meth c H locs cells slots mc ms (F0 m pc ls st0) rest (va_Qi Post (PW E) (AA E H.size) a) (XE E (fun _ _ => False) H.size) (AA E H.size))
    (kk : ∀ (r : Int32) (w1 : Wd) (H1 : Heap) (locs1 : List Loc), Post r w1 → Wo E s w1 H1 locs1 → W p l e R s m args below meth c H1 locs1 (cells + mc) (slots + ms) Q (F0 m (pc + 3) ls (.int r :: rest))) : W p l e R s m args below meth c H locs cells slots Q (F0 m pc ls st0) :=
  done_xi hw hr (fun k q ce1 w1 H1 locs1 hk h => h.elim) kk
end LWM
theorem hy_L_refuses : yL_refuses.cls ≠ "java/lang/invoke/MethodHandle" ∧ yL_refuses.cls ≠ "java/lang/invoke/VarHandle" ∧ (parseMethodDescriptor yL_refuses.desc).map (fun d => d.parameters.length) = some 1 := by decide +kernel
def wp_L_refuses (w : Wd) (Post : Int32 → Wd → Prop) : Prop := wp_L_pass w (fun c1 w1 => c1 = 1 ∧ Post 1 w1)
set_option maxHeartbeats 4000000 in
set_option maxRecDepth 100000 in
theorem mt_L_refuses (l : Launch) (hT : l.stackTraces = false) {E : En} (hI : Inj E) (hF : ∀ o, (o < 15 ∨ 27 ≤ o ∧ o < 157) → o ∈ eL E) (w : Wd) {Post : Int32 → Wd → Prop} (h : wp_L_refuses w Post) : MW l E yL_refuses cL_refuses 2 (some .boolean) [(0, 6, 7, 125)] 7 102 1 6 [.ref (eA E 0)] w Post := by
  refine MW.intro hI (by decide +kernel) (Nat.le_of_ble_eq_true rfl) ?_
  intro p e s m args below meth c Q C hr hlk htab hQ hw ls hl
  have hx := C.1
  have hb := C.2.1
  have hl : lv_has ls 2 [(0, .ref (eA E 0))] := hl
  unfold wp_L_refuses wp_L_pass at h
  refine lv_aload_n hx hb dL_refuses_0 rfl (lv_at hl 0 rfl) ?_
  refine done_xi hw (my_runVX (As := []) (rest := []) C hw 0 8 (hF 0 (by decide)) rfl rfl (mt_X8_pass l hT C.2.2.2.2.2.2.2 hF _ h) K_m_L_122 K_i_X8_pass K_v_X8_pass K_n_X8 K_c_X8_pass hy_X8_pass ⟨Nat.le_of_ble_eq_true rfl, Nat.le_of_ble_eq_true rfl⟩ hl.1 rfl (Nat.le_of_ble_eq_true rfl) dL_refuses_1 ⟨Nat.le_of_ble_eq_true rfl, Nat.le_of_ble_eq_true rfl⟩) (fun ke1 q ce1 w1 H locs hk3 h hw hq hv hcl => ?_) (fun r1 w1 H locs h hw => ?_)
  · obtain ⟨he, -, h⟩ := h
    refine r_catch1 2 C htab hk3 he (by decide) (by decide) K_k_L_125 hq hv hcl ?_
    refine lv_astore_n (lv' := [(1, .ref q), (0, .ref (eA E 0))]) hx hb dL_refuses_7 rfl hl (by decide) rfl (fun ls hl => ?_)
    refine lv_iconst (v := 1) hx hb dL_refuses_8 (by decide) ?_
    rw [hQ]
    refine vx_ret ?_
    refine W.widen (k := 1) (n := 6) (by decide) (by decide) ?_
    exact ret_z C hr hlk hw h (by decide) dL_refuses_9
  exact absurd (h _ rfl).1 (by decide)
def cellX (N : Nat) (X : Nat → Int32) (k : Nat) : Int32 := if N = 0 then 0 else X (k % N) ^^^ 40503 * nI (k / N)
/-- a pick of the script: below n, the same at each asking -/
def pkX (N : Nat) (X : Nat → Int32) (k n : Nat) : Nat := (cellX N X k &&& 65535).toBitVec.toNat % n
theorem pkX_lt (N : Nat) (X : Nat → Int32) (k : Nat) {n : Nat} (h : 0 < n) : pkX N X k n < n := Nat.mod_lt _ h
theorem mask_nI (x : Int32) : (x &&& 65535).toBitVec.toNat < 65536 ∧ x &&& 65535 = nI (x &&& 65535).toBitVec.toNat := by
  refine ⟨?_, ?_⟩
  · rw [Int32.toBitVec_and, BitVec.toNat_and]
    exact Nat.lt_of_le_of_lt Nat.and_le_right (by decide)
  · apply Int32.toBitVec_inj.mp
    show _ = (Int32.ofNat _).toBitVec
    simp
theorem hy_L_cell : yL_cell.cls ≠ "java/lang/invoke/MethodHandle" ∧ yL_cell.cls ≠ "java/lang/invoke/VarHandle" ∧ (parseMethodDescriptor yL_cell.desc).map (fun d => d.parameters.length) = some 2 := by decide +kernel
theorem hy_L_pick : yL_pick.cls ≠ "java/lang/invoke/MethodHandle" ∧ yL_pick.cls ≠ "java/lang/invoke/VarHandle" ∧ (parseMethodDescriptor yL_pick.desc).map (fun d => d.parameters.length) = some 3 := by decide +kernel
set_option maxHeartbeats 4000000 in
set_option maxRecDepth 100000 in
theorem mt_L_cell (l : Launch) {E : En} (hI : Inj E) (hE : eN E < 2 ^ 30) (w : Wd) (k : Nat) (hk : k < 2 ^ 30) {Post : Int32 → Wd → Prop} (h : Post (cellX (eN E) (eX E) k) w) : MI l E yL_cell cL_cell 2 (some .int) 0 0 [.ref (eT E 300), .int (nI k)] w Post := by
  refine MG.intro hI (by decide +kernel) (Nat.le_of_ble_eq_true rfl) ?_
  intro p e s m args below meth c Q C hr hlk hQ hw ls hl
  have hx := C.1
  have hb := C.2.1
  have hl : lv_has ls 2 [(0, .ref (eT E 300)), (1, .int (nI k))] := hl
  have z0 : nI (eN E) = 0 ↔ eN E = 0 := nI_eq (by omega) (by decide)
  refine lv_aload_n hx hb dL_cell_0 rfl (lv_at hl 0 rfl) ?_
  refine r_slen C hw dL_cell_1 ?_
  refine lv_if_ne (tgt := 9) hx hb dL_cell_2 (by decide) (fun c1 => ?_) (fun c1 => ?_)
  · have hN : 0 < eN E := Nat.pos_of_ne_zero (fun q => c1 (z0.mpr q))
    refine lv_aload_n hx hb dL_cell_9 rfl (lv_at hl 0 rfl) ?_
    refine lv_iload_n hx hb dL_cell_10 rfl (lv_at hl 1 rfl) ?_
    refine lv_aload_n hx hb dL_cell_11 rfl (lv_at hl 0 rfl) ?_
    refine r_slen C hw dL_cell_12 ?_
    refine lv_irem hx hb dL_cell_13 c1 ?_
    rw [pk_rem (by omega) hN (by omega)]
    have hm : k % eN E < eN E := Nat.mod_lt _ hN
    refine r_sld C hw (vp_in_nI hm (by omega)) dL_cell_14 ?_
    rw [nI_clamp (by omega)]
    refine lv_ldc (v := 40503) hx hb C.2.2.2.1 (C.2.2.2.2.1 _ K_t_L_7) dL_cell_15 ?_
    refine lv_iload_n hx hb dL_cell_17 rfl (lv_at hl 1 rfl) ?_
    refine lv_aload_n hx hb dL_cell_18 rfl (lv_at hl 0 rfl) ?_
    refine r_slen C hw dL_cell_19 ?_
    refine lv_idiv hx hb dL_cell_20 c1 ?_
    rw [pk_div (by omega) hN (by omega)]
    refine lv_imul hx hb dL_cell_21 ?_
    refine lv_ixor hx hb dL_cell_22 ?_
    rw [hQ]
    unfold cellX at h
    rw [if_neg (by omega)] at h
    exact ret_i C hr hlk hw h dL_cell_23
  · refine lv_iconst (v := 0) hx hb dL_cell_5 (by decide) ?_
    refine lv_goto (tgt := 23) hx hb dL_cell_6 (by decide) ?_
    rw [hQ]
    unfold cellX at h
    rw [if_pos (z0.mp c1)] at h
    exact ret_i C hr hlk hw h dL_cell_23
def wp_L_pick (N : Nat) (X : Nat → Int32) (w : Wd) (a b : Int32) (Post : Int32 → Wd → Prop) : Prop := ∃ k n : Nat, (a = nI k ∧ b = nI n ∧ k < 1000 ∧ 0 < n ∧ n < 1000) ∧ Post (nI (pkX N X k n)) w
set_option maxHeartbeats 4000000 in
set_option maxRecDepth 100000 in
theorem mt_L_pick (l : Launch) {E : En} (hI : Inj E) (hE : eN E < 2 ^ 30) (w : Wd) (a b : Int32) {Post : Int32 → Wd → Prop} (h : wp_L_pick (eN E) (eX E) w a b Post) : MI l E yL_pick cL_pick 3 (some .int) 1 21 [.ref (eT E 300), .int a, .int b] w Post := by
  obtain ⟨k, n, ⟨ea, eb, hk, hn0, hn⟩, h⟩ := h
  subst ea
  subst eb
  refine MG.intro hI (by decide +kernel) (Nat.le_of_ble_eq_true rfl) ?_
  intro p e s m args below meth c Q C hr hlk hQ hw ls hl
  have hx := C.1
  have hb := C.2.1
  have hl : lv_has ls 3 [(0, .ref (eT E 300)), (1, .int (nI k)), (2, .int (nI n))] := hl
  have zn : ¬ nI n = 0 := fun q => by have := (nI_eq (a := n) (b := 0) (by omega) (by decide)).mp q; omega
  obtain ⟨m1, m2⟩ := mask_nI (cellX (eN E) (eX E) k)
  refine lv_aload_n hx hb dL_pick_0 rfl (lv_at hl 0 rfl) ?_
  refine lv_iload_n hx hb dL_pick_1 rfl (lv_at hl 1 rfl) ?_
  refine done_i hw (my_runS (As := [.ref (eT E 300), .int (nI k)]) (rest := []) C hw (mt_L_cell l hI hE w k (by omega) (Post := fun r w1 => r = cellX (eN E) (eX E) k ∧ w1 = w) ⟨rfl, rfl⟩) K_m_L_8 K_s_L_cell K_n_L K_c_L_cell hy_L_cell ⟨Nat.le_of_ble_eq_true rfl, Nat.le_of_ble_eq_true rfl⟩ hl.1 rfl (Nat.le_of_ble_eq_true rfl) dL_pick_2 ⟨Nat.zero_le _, Nat.zero_le _⟩) (fun r1 w1 H locs h1 hw => ?_)
  rw [h1.2] at hw
  rw [h1.1]
  refine lv_ldc (v := 65535) hx hb C.2.2.2.1 (C.2.2.2.2.1 _ K_t_L_14) dL_pick_5 ?_
  refine lv_iand hx hb dL_pick_7 ?_
  refine lv_iload_n hx hb dL_pick_8 rfl (lv_at hl 2 rfl) ?_
  refine lv_irem hx hb dL_pick_9 zn ?_
  rw [m2, pk_rem (by omega) hn0 (by omega)]
  rw [hQ]
  exact ret_i C hr hlk hw h dL_pick_10
theorem hy_L_isCounted : yL_isCounted.cls ≠ "java/lang/invoke/MethodHandle" ∧ yL_isCounted.cls ≠ "java/lang/invoke/VarHandle" ∧ (parseMethodDescriptor yL_isCounted.desc).map (fun d => d.parameters.length) = some 1 := by decide +kernel
def wp_L_isCounted (w : Wd) (Post : Int32 → Wd → Prop) : Prop :=
  ∀ J4 : Nat → Int32 → Int32 → Wd → Prop, ∀ J67 : Nat → Int32 → Int32 → Wd → Prop, ∀ J92 : Nat → Int32 → Int32 → Wd → Prop, (∀ (t : Nat) (x1 : Int32) (x2 : Int32) (w : Wd), t + 6 ≤ 120 ∧ (wp_L_size w 0 (fun cx1 w1 => cx1 = 0 ∧ ((((gL w1 25 0).toInt32) ≤ x2 → (wp_X8_allowed w1 (fun r2 w2 => (x1 = r2 → (Post 1 w2)) ∧ (¬ x1 = r2 → (Post 0 w2))))) ∧ (¬ ((gL w1 25 0).toInt32) ≤ x2 → (wp_L_ladder w1 x2 1 (fun cx2 w3 => cx2 = 0 ∧ (wp_L_set w3 x2 0 (fun cx3 w4 => cx3 = 0 ∧ (wp_J6_bitCount_0f7a4 w4 ((gL w4 25 0).toInt32) (fun r5 w5 => wp_L_ladder w5 x2 2 (fun cx4 w6 => cx4 = 0 ∧ ((((gL w3 25 0).toInt32) = (r5 + ((gL w6 25 0).toInt32)) → (wp_L_longest w6 x2 (fun cx5 w7 => cx5 = 0 ∧ ((((gL w7 25 0).toInt32) ≤ 0 → (wp_L_stepsOn w7 x2 (fun cx6 w8 => cx6 = 0 ∧ ((((gL w8 25 0).toInt32) ≤ 0 → (J67 (t + 6) x1 x2 w8)) ∧ (¬ ((gL w8 25 0).toInt32) ≤ 0 → (Post 0 w8)))))) ∧ (¬ ((gL w7 25 0).toInt32) ≤ 0 → (wp_L_stepsOn w7 x2 (fun cx7 w9 => cx7 = 0 ∧ ((((gL w9 25 0).toInt32) ≤ 0 → (Post 0 w9)) ∧ (¬ ((gL w9 25 0).toInt32) ≤ 0 → (J67 (t + 6) x1 x2 w9)))))))))) ∧ (¬ ((gL w3 25 0).toInt32) = (r5 + ((gL w6 25 0).toInt32)) → (Post 0 w6)))))))))))))) → J4 t x1 x2 w) →
  (∀ (t : Nat) (x1 : Int32) (x2 : Int32) (w : Wd), t + 2 ≤ 120 ∧ (wp_L_positions w x2 (fun cx8 w10 => cx8 = 0 ∧ (wp_L_stepsOn w10 x2 (fun cx9 w11 => cx9 = 0 ∧ ((((gL w11 25 0).toInt32) ≤ 0 → (((1 + 0) ≤ ((gL w10 25 0).toInt32) → (J92 (t + 2) x1 x2 w11)) ∧ (¬ (1 + 0) ≤ ((gL w10 25 0).toInt32) → (Post 0 w11)))) ∧ (¬ ((gL w11 25 0).toInt32) ≤ 0 → (((1 + 1) ≤ ((gL w10 25 0).toInt32) → (J92 (t + 2) x1 x2 w11)) ∧ (¬ (1 + 1) ≤ ((gL w10 25 0).toInt32) → (Post 0 w11))))))))) → J67 t x1 x2 w) →
  (∀ (t : Nat) (x1 : Int32) (x2 : Int32) (w : Wd), t + 5 ≤ 120 ∧ (wp_L_set w x2 0 (fun cx10 w12 => cx10 = 0 ∧ (wp_L_valueOf w12 x2 ((gL w12 25 0).toInt32) (fun cx11 w13 => cx11 = 0 ∧ (wp_L_ladder w13 x2 3 (fun cx12 w14 => cx12 = 0 ∧ ((((gL w13 25 0).toInt32) = ((gL w14 25 0).toInt32) → (wp_L_meanValue w14 x2 (fun cx13 w15 => cx13 = 0 ∧ ((0 ≤ (Op.cmpValue (FP.dcmp (gD w15 26 0) FP.dconst0) .g) → (wp_L_stepsOn w15 x2 (fun cx14 w16 => cx14 = 0 ∧ (∀ y1 : Int32, y1 = x1 + ((gL w16 25 0).toInt32) → (∀ y2 : Int32, y2 = x2 + 1 → (J4 (t + 5) y1 y2 w16)))))) ∧ (¬ 0 ≤ (Op.cmpValue (FP.dcmp (gD w15 26 0) FP.dconst0) .g) → (Post 0 w15)))))) ∧ (¬ ((gL w13 25 0).toInt32) = ((gL w14 25 0).toInt32) → (Post 0 w14))))))))) → J92 t x1 x2 w) →
  J4 0 0 0 w
set_option maxHeartbeats 4000000 in
set_option maxRecDepth 100000 in
theorem mt_L_isCounted (l : Launch) (hT : l.stackTraces = false) {E : En} (hI : Inj E) (hF : ∀ o, (o < 15 ∨ 27 ≤ o ∧ o < 157) → o ∈ eL E) (hN : ∀ o, o ∈ eL E → o ≠ 25 ∧ o ≠ 26) (w : Wd) {Post : Int32 → Wd → Prop} (h : wp_L_isCounted w Post) : ME l E yL_isCounted cL_isCounted 3 (some .boolean) 8 163 240 122880 [.ref (eA E 0)] w (fun sz => va_Qi Post (PW E) (AA E sz)) := by
  refine ME.intro hI (by decide +kernel) (Nat.le_of_ble_eq_true rfl) ?_
  intro p e s m args below meth c Q C hr hlk hQ hw ls hl
  have hx := C.1
  have hb := C.2.1
  have hl : lv_has ls 3 [(0, .ref (eA E 0))] := hl
  unfold wp_L_isCounted at h
  have h := h (fun (t : Nat) (x1 : Int32) (x2 : Int32) (w : Wd) => ∀ k n : Nat, k ≤ 0 + 2 * t → n ≤ 0 + 1024 * t → ∀ (H : Heap) (locs : List Loc), Wo E s w H locs → ∀ ls : Array Slot, lv_has ls 3 [(0, .ref (eA E 0)), (1, .int x1), (2, .int x2)] → W p l e (RmX 8 163 240 122880) s m args below meth c H locs k n Q (F0 m 4 ls []))
  have h := h (fun (t : Nat) (x1 : Int32) (x2 : Int32) (w : Wd) => ∀ k n : Nat, k ≤ 0 + 2 * t → n ≤ 0 + 1024 * t → ∀ (H : Heap) (locs : List Loc), Wo E s w H locs → ∀ ls : Array Slot, lv_has ls 3 [(0, .ref (eA E 0)), (1, .int x1), (2, .int x2)] → W p l e (RmX 8 163 240 122880) s m args below meth c H locs k n Q (F0 m 67 ls []))
  have h := h (fun (t : Nat) (x1 : Int32) (x2 : Int32) (w : Wd) => ∀ k n : Nat, k ≤ 0 + 2 * t → n ≤ 0 + 1024 * t → ∀ (H : Heap) (locs : List Loc), Wo E s w H locs → ∀ ls : Array Slot, lv_has ls 3 [(0, .ref (eA E 0)), (1, .int x1), (2, .int x2)] → W p l e (RmX 8 163 240 122880) s m args below meth c H locs k n Q (F0 m 92 ls []))
  have h := h ?_
  rotate_left
  · intro t x1 x2 w h k n hk hn H locs hw ls hl
    obtain ⟨ht, h⟩ := h
    refine lv_iload_n hx hb dL_isCounted_4 rfl (lv_at hl 2 rfl) ?_
    refine lv_aload_n hx hb dL_isCounted_5 rfl (lv_at hl 0 rfl) ?_
    refine lv_iconst (v := 0) hx hb dL_isCounted_6 (by decide) ?_
    unfold wp_L_size at h
    refine done_xi hw (my_runVX (As := [.int 0]) (rest := [.int x2]) C hw 0 8 (hF 0 (by decide)) rfl rfl (mt_X8_size l hT C.2.2.2.2.2.2.2 hF _ _ h) K_m_L_61 K_i_X8_size K_v_X8_size K_n_X8 K_c_X8_size hy_X8_size ⟨Nat.le_of_ble_eq_true rfl, Nat.le_of_ble_eq_true rfl⟩ hl.1 rfl (Nat.le_of_ble_eq_true rfl) dL_isCounted_7 ⟨by show _ ≤ (240 : Nat); omega, by show _ ≤ (122880 : Nat); omega⟩) (fun ke q ce1 we H locs hk3 h hw hq hv hcl => ?_) (fun r1 w1 H locs h hw => ?_)
    · exact absurd h.2.1 (by decide)
    have h := (h _ rfl).2
    have hw := Wo.sL hN hw (x := r1.toInt64)
    have er := gL_25 w1 r1
    generalize sL w1 25 0 r1.toInt64 = w1 at h hw er
    rw [← er]
    refine lv_icmp_ge (tgt := 138) hx hb dL_isCounted_10 (by decide) (fun c1 => ?_) (fun c1 => ?_)
    · have h := h.1 c1
      refine lv_iload_n hx hb dL_isCounted_138 rfl (lv_at hl 1 rfl) ?_
      refine lv_aload_n hx hb dL_isCounted_139 rfl (lv_at hl 0 rfl) ?_
      refine done_i hw (my_runV (As := []) (rest := [.int x1]) C hw 0 8 (hF 0 (by decide)) rfl rfl (mt_X8_allowed l C.2.2.2.2.2.2.2 hF _ h) K_m_L_92 K_i_X8_allowed K_v_X8_allowed K_n_X8 K_c_X8_allowed hy_X8_allowed ⟨Nat.le_of_ble_eq_true rfl, Nat.le_of_ble_eq_true rfl⟩ hl.1 rfl (Nat.le_of_ble_eq_true rfl) dL_isCounted_140 ⟨by show _ ≤ (240 : Nat); omega, by show _ ≤ (122880 : Nat); omega⟩) (fun r2 w2 H locs h hw => ?_)
      refine lv_icmp_ne (tgt := 150) hx hb dL_isCounted_143 (by decide) (fun c2 => ?_) (fun c2 => ?_)
      · have h := h.2 c2
        refine lv_iconst (v := 0) hx hb dL_isCounted_150 (by decide) ?_
        rw [hQ]
        refine W.widen (k := 240) (n := 122880) (by omega) (by omega) ?_
        exact ret_z C hr hlk hw h (by decide) dL_isCounted_151
      · have h := h.1 c2
        refine lv_iconst (v := 1) hx hb dL_isCounted_146 (by decide) ?_
        refine lv_goto (tgt := 151) hx hb dL_isCounted_147 (by decide) ?_
        rw [hQ]
        refine W.widen (k := 240) (n := 122880) (by omega) (by omega) ?_
        exact ret_z C hr hlk hw h (by decide) dL_isCounted_151
    · have h := h.2 c1
      refine lv_aload_n hx hb dL_isCounted_13 rfl (lv_at hl 0 rfl) ?_
      refine lv_iload_n hx hb dL_isCounted_14 rfl (lv_at hl 2 rfl) ?_
      refine lv_iconst (v := 1) hx hb dL_isCounted_15 (by decide) ?_
      unfold wp_L_ladder at h
      refine done_xi hw (my_runVX (As := [.int x2, .int 1]) (rest := []) C hw 0 8 (hF 0 (by decide)) rfl rfl (mt_X8_ladder l hT C.2.2.2.2.2.2.2 hF _ _ _ h) K_m_L_74 K_i_X8_ladder K_v_X8_ladder K_n_X8 K_c_X8_ladder hy_X8_ladder ⟨Nat.le_of_ble_eq_true rfl, Nat.le_of_ble_eq_true rfl⟩ hl.1 rfl (Nat.le_of_ble_eq_true rfl) dL_isCounted_16 ⟨by show _ ≤ (240 : Nat); omega, by show _ ≤ (122880 : Nat); omega⟩) (fun ke q ce1 we H locs hk3 h hw hq hv hcl => ?_) (fun r3 w3 H locs h hw => ?_)
      · exact h.elim (fun h => absurd h.2.1 (by decide)) (fun h => absurd h.2.1 (by decide))
      have h := (h _ rfl).2
      have hw := Wo.sL hN hw (x := r3.toInt64)
      have er := gL_25 w3 r3
      generalize sL w3 25 0 r3.toInt64 = w3 at h hw er
      rw [← er]
      refine lv_aload_n hx hb dL_isCounted_19 rfl (lv_at hl 0 rfl) ?_
      refine lv_iload_n hx hb dL_isCounted_20 rfl (lv_at hl 2 rfl) ?_
      refine lv_iconst (v := 0) hx hb dL_isCounted_21 (by decide) ?_
      unfold wp_L_set at h
      refine done_xi hw (my_runVX (As := [.int x2, .int 0]) (rest := [.int ((gL w3 25 0).toInt32)]) C hw 0 8 (hF 0 (by decide)) rfl rfl (mt_X8_set l hT C.2.2.2.2.2.2.2 hF _ _ _ h) K_m_L_98 K_i_X8_set K_v_X8_set K_n_X8 K_c_X8_set hy_X8_set ⟨Nat.le_of_ble_eq_true rfl, Nat.le_of_ble_eq_true rfl⟩ hl.1 rfl (Nat.le_of_ble_eq_true rfl) dL_isCounted_22 ⟨by show _ ≤ (240 : Nat); omega, by show _ ≤ (122880 : Nat); omega⟩) (fun ke q ce1 we H locs hk3 h hw hq hv hcl => ?_) (fun r4 w4 H locs h hw => ?_)
      · exact h.elim (fun h => absurd h.2.1 (by decide)) (fun h => absurd h.2.1 (by decide))
      have h := (h _ rfl).2
      have hw := Wo.sL hN hw (x := r4.toInt64)
      have er := gL_25 w4 r4
      generalize sL w4 25 0 r4.toInt64 = w4 at h hw er
      rw [← er]
      refine done_i hw (my_runS (As := [.int ((gL w4 25 0).toInt32)]) (rest := [.int ((gL w3 25 0).toInt32)]) C hw (mt_J6_bitCount_0f7a4 l C.2.2.2.2.2.2.2 _ _ h) K_m_L_101 K_s_J6_bitCount_0f7a4 K_n_J6 K_c_J6_bitCount_0f7a4 hy_J6_bitCount_0f7a4 ⟨Nat.le_of_ble_eq_true rfl, Nat.le_of_ble_eq_true rfl⟩ hl.1 rfl (Nat.le_of_ble_eq_true rfl) dL_isCounted_25 ⟨by show _ ≤ (240 : Nat); omega, by show _ ≤ (122880 : Nat); omega⟩) (fun r5 w5 H locs h hw => ?_)
      refine lv_aload_n hx hb dL_isCounted_28 rfl (lv_at hl 0 rfl) ?_
      refine lv_iload_n hx hb dL_isCounted_29 rfl (lv_at hl 2 rfl) ?_
      refine lv_iconst (v := 2) hx hb dL_isCounted_30 (by decide) ?_
      unfold wp_L_ladder at h
      refine done_xi hw (my_runVX (As := [.int x2, .int 2]) (rest := [.int r5, .int ((gL w3 25 0).toInt32)]) C hw 0 8 (hF 0 (by decide)) rfl rfl (mt_X8_ladder l hT C.2.2.2.2.2.2.2 hF _ _ _ h) K_m_L_74 K_i_X8_ladder K_v_X8_ladder K_n_X8 K_c_X8_ladder hy_X8_ladder ⟨Nat.le_of_ble_eq_true rfl, Nat.le_of_ble_eq_true rfl⟩ hl.1 rfl (Nat.le_of_ble_eq_true rfl) dL_isCounted_31 ⟨by show _ ≤ (240 : Nat); omega, by show _ ≤ (122880 : Nat); omega⟩) (fun ke q ce1 we H locs hk3 h hw hq hv hcl => ?_) (fun r6 w6 H locs h hw => ?_)
      · exact h.elim (fun h => absurd h.2.1 (by decide)) (fun h => absurd h.2.1 (by decide))
      have h := (h _ rfl).2
      have hw := Wo.sL hN hw (x := r6.toInt64)
      have er := gL_25 w6 r6
      generalize sL w6 25 0 r6.toInt64 = w6 at h hw er
      rw [← er]
      refine lv_iadd hx hb dL_isCounted_34 ?_
      refine lv_icmp_ne (tgt := 90) hx hb dL_isCounted_35 (by decide) (fun c3 => ?_) (fun c3 => ?_)
      · have h := h.2 c3
        refine lv_iconst (v := 0) hx hb dL_isCounted_90 (by decide) ?_
        rw [hQ]
        refine W.widen (k := 240) (n := 122880) (by omega) (by omega) ?_
        exact ret_z C hr hlk hw h (by decide) dL_isCounted_91
      · have h := h.1 c3
        refine lv_aload_n hx hb dL_isCounted_38 rfl (lv_at hl 0 rfl) ?_
        refine lv_iload_n hx hb dL_isCounted_39 rfl (lv_at hl 2 rfl) ?_
        unfold wp_L_longest at h
        refine done_xi hw (my_runVX (As := [.int x2]) (rest := []) C hw 0 8 (hF 0 (by decide)) rfl rfl (mt_X8_longest l hT C.2.2.2.2.2.2.2 hF _ _ h) K_m_L_106 K_i_X8_longest K_v_X8_longest K_n_X8 K_c_X8_longest hy_X8_longest ⟨Nat.le_of_ble_eq_true rfl, Nat.le_of_ble_eq_true rfl⟩ hl.1 rfl (Nat.le_of_ble_eq_true rfl) dL_isCounted_40 ⟨by show _ ≤ (240 : Nat); omega, by show _ ≤ (122880 : Nat); omega⟩) (fun ke q ce1 we H locs hk3 h hw hq hv hcl => ?_) (fun r7 w7 H locs h hw => ?_)
        · exact absurd h.2.1 (by decide)
        have h := (h _ rfl).2
        have hw := Wo.sL hN hw (x := r7.toInt64)
        have er := gL_25 w7 r7
        generalize sL w7 25 0 r7.toInt64 = w7 at h hw er
        rw [← er]
        refine lv_if_le (tgt := 50) hx hb dL_isCounted_43 (by decide) (fun c4 => ?_) (fun c4 => ?_)
        · have h := h.1 c4
          refine lv_iconst (v := 0) hx hb dL_isCounted_50 (by decide) ?_
          refine lv_aload_n hx hb dL_isCounted_51 rfl (lv_at hl 0 rfl) ?_
          refine lv_iload_n hx hb dL_isCounted_52 rfl (lv_at hl 2 rfl) ?_
          unfold wp_L_stepsOn at h
          refine done_xi hw (my_runVX (As := [.int x2]) (rest := [.int 0]) C hw 0 8 (hF 0 (by decide)) rfl rfl (mt_X8_stepsOn l hT C.2.2.2.2.2.2.2 hF _ _ h) K_m_L_109 K_i_X8_stepsOn K_v_X8_stepsOn K_n_X8 K_c_X8_stepsOn hy_X8_stepsOn ⟨Nat.le_of_ble_eq_true rfl, Nat.le_of_ble_eq_true rfl⟩ hl.1 rfl (Nat.le_of_ble_eq_true rfl) dL_isCounted_53 ⟨by show _ ≤ (240 : Nat); omega, by show _ ≤ (122880 : Nat); omega⟩) (fun ke q ce1 we H locs hk3 h hw hq hv hcl => ?_) (fun r8 w8 H locs h hw => ?_)
          · exact absurd h.2.1 (by decide)
          have h := (h _ rfl).2
          have hw := Wo.sL hN hw (x := r8.toInt64)
          have er := gL_25 w8 r8
          generalize sL w8 25 0 r8.toInt64 = w8 at h hw er
          rw [← er]
          refine lv_if_le (tgt := 63) hx hb dL_isCounted_56 (by decide) (fun c5 => ?_) (fun c5 => ?_)
          · have h := h.1 c5
            refine lv_iconst (v := 0) hx hb dL_isCounted_63 (by decide) ?_
            refine lv_icmp_ne (tgt := 90) hx hb dL_isCounted_64 (by decide) (fun c6 => ?_) (fun c6 => ?_)
            · exact absurd c6 (by decide)
            · exact h _ _ (by omega) (by omega) _ _ hw _ (lv_sub hl [0, 1, 2] rfl)
          · have h := h.2 c5
            refine lv_iconst (v := 1) hx hb dL_isCounted_59 (by decide) ?_
            refine lv_goto (tgt := 64) hx hb dL_isCounted_60 (by decide) ?_
            refine lv_icmp_ne (tgt := 90) hx hb dL_isCounted_64 (by decide) (fun c7 => ?_) (fun c7 => ?_)
            · refine lv_iconst (v := 0) hx hb dL_isCounted_90 (by decide) ?_
              rw [hQ]
              refine W.widen (k := 240) (n := 122880) (by omega) (by omega) ?_
              exact ret_z C hr hlk hw h (by decide) dL_isCounted_91
            · exact absurd c7 (by decide)
        · have h := h.2 c4
          refine lv_iconst (v := 1) hx hb dL_isCounted_46 (by decide) ?_
          refine lv_goto (tgt := 51) hx hb dL_isCounted_47 (by decide) ?_
          refine lv_aload_n hx hb dL_isCounted_51 rfl (lv_at hl 0 rfl) ?_
          refine lv_iload_n hx hb dL_isCounted_52 rfl (lv_at hl 2 rfl) ?_
          unfold wp_L_stepsOn at h
          refine done_xi hw (my_runVX (As := [.int x2]) (rest := [.int 1]) C hw 0 8 (hF 0 (by decide)) rfl rfl (mt_X8_stepsOn l hT C.2.2.2.2.2.2.2 hF _ _ h) K_m_L_109 K_i_X8_stepsOn K_v_X8_stepsOn K_n_X8 K_c_X8_stepsOn hy_X8_stepsOn ⟨Nat.le_of_ble_eq_true rfl, Nat.le_of_ble_eq_true rfl⟩ hl.1 rfl (Nat.le_of_ble_eq_true rfl) dL_isCounted_53 ⟨by show _ ≤ (240 : Nat); omega, by show _ ≤ (122880 : Nat); omega⟩) (fun ke q ce1 we H locs hk3 h hw hq hv hcl => ?_) (fun r9 w9 H locs h hw => ?_)
          · exact absurd h.2.1 (by decide)
          have h := (h _ rfl).2
          have hw := Wo.sL hN hw (x := r9.toInt64)
          have er := gL_25 w9 r9
          generalize sL w9 25 0 r9.toInt64 = w9 at h hw er
          rw [← er]
          refine lv_if_le (tgt := 63) hx hb dL_isCounted_56 (by decide) (fun c8 => ?_) (fun c8 => ?_)
          · have h := h.1 c8
            refine lv_iconst (v := 0) hx hb dL_isCounted_63 (by decide) ?_
            refine lv_icmp_ne (tgt := 90) hx hb dL_isCounted_64 (by decide) (fun c9 => ?_) (fun c9 => ?_)
            · refine lv_iconst (v := 0) hx hb dL_isCounted_90 (by decide) ?_
              rw [hQ]
              refine W.widen (k := 240) (n := 122880) (by omega) (by omega) ?_
              exact ret_z C hr hlk hw h (by decide) dL_isCounted_91
            · exact absurd c9 (by decide)
          · have h := h.2 c8
            refine lv_iconst (v := 1) hx hb dL_isCounted_59 (by decide) ?_
            refine lv_goto (tgt := 64) hx hb dL_isCounted_60 (by decide) ?_
            refine lv_icmp_ne (tgt := 90) hx hb dL_isCounted_64 (by decide) (fun c10 => ?_) (fun c10 => ?_)
            · exact absurd c10 (by decide)
            · exact h _ _ (by omega) (by omega) _ _ hw _ (lv_sub hl [0, 1, 2] rfl)
  have h := h ?_
  rotate_left
  · intro t x1 x2 w h k n hk hn H locs hw ls hl
    obtain ⟨ht, h⟩ := h
    refine lv_aload_n hx hb dL_isCounted_67 rfl (lv_at hl 0 rfl) ?_
    refine lv_iload_n hx hb dL_isCounted_68 rfl (lv_at hl 2 rfl) ?_
    unfold wp_L_positions at h
    refine done_xi hw (my_runVX (As := [.int x2]) (rest := []) C hw 0 8 (hF 0 (by decide)) rfl rfl (mt_X8_positions l hT C.2.2.2.2.2.2.2 hF _ _ h) K_m_L_112 K_i_X8_positions K_v_X8_positions K_n_X8 K_c_X8_positions hy_X8_positions ⟨Nat.le_of_ble_eq_true rfl, Nat.le_of_ble_eq_true rfl⟩ hl.1 rfl (Nat.le_of_ble_eq_true rfl) dL_isCounted_69 ⟨by show _ ≤ (240 : Nat); omega, by show _ ≤ (122880 : Nat); omega⟩) (fun ke q ce1 we H locs hk3 h hw hq hv hcl => ?_) (fun r10 w10 H locs h hw => ?_)
    · exact absurd h.2.1 (by decide)
    have h := (h _ rfl).2
    have hw := Wo.sL hN hw (x := r10.toInt64)
    have er := gL_25 w10 r10
    generalize sL w10 25 0 r10.toInt64 = w10 at h hw er
    rw [← er]
    refine lv_iconst (v := 1) hx hb dL_isCounted_72 (by decide) ?_
    refine lv_aload_n hx hb dL_isCounted_73 rfl (lv_at hl 0 rfl) ?_
    refine lv_iload_n hx hb dL_isCounted_74 rfl (lv_at hl 2 rfl) ?_
    unfold wp_L_stepsOn at h
    refine done_xi hw (my_runVX (As := [.int x2]) (rest := [.int 1, .int ((gL w10 25 0).toInt32)]) C hw 0 8 (hF 0 (by decide)) rfl rfl (mt_X8_stepsOn l hT C.2.2.2.2.2.2.2 hF _ _ h) K_m_L_109 K_i_X8_stepsOn K_v_X8_stepsOn K_n_X8 K_c_X8_stepsOn hy_X8_stepsOn ⟨Nat.le_of_ble_eq_true rfl, Nat.le_of_ble_eq_true rfl⟩ hl.1 rfl (Nat.le_of_ble_eq_true rfl) dL_isCounted_75 ⟨by show _ ≤ (240 : Nat); omega, by show _ ≤ (122880 : Nat); omega⟩) (fun ke q ce1 we H locs hk3 h hw hq hv hcl => ?_) (fun r11 w11 H locs h hw => ?_)
    · exact absurd h.2.1 (by decide)
    have h := (h _ rfl).2
    have hw := Wo.sL hN hw (x := r11.toInt64)
    have er := gL_25 w11 r11
    generalize sL w11 25 0 r11.toInt64 = w11 at h hw er
    rw [← er]
    refine lv_if_le (tgt := 85) hx hb dL_isCounted_78 (by decide) (fun c11 => ?_) (fun c11 => ?_)
    · have h := h.1 c11
      refine lv_iconst (v := 0) hx hb dL_isCounted_85 (by decide) ?_
      refine lv_iadd hx hb dL_isCounted_86 ?_
      refine lv_icmp_ge (tgt := 92) hx hb dL_isCounted_87 (by decide) (fun c12 => ?_) (fun c12 => ?_)
      · have h := h.1 c12
        exact h _ _ (by omega) (by omega) _ _ hw _ (lv_sub hl [0, 1, 2] rfl)
      · have h := h.2 c12
        refine lv_iconst (v := 0) hx hb dL_isCounted_90 (by decide) ?_
        rw [hQ]
        refine W.widen (k := 240) (n := 122880) (by omega) (by omega) ?_
        exact ret_z C hr hlk hw h (by decide) dL_isCounted_91
    · have h := h.2 c11
      refine lv_iconst (v := 1) hx hb dL_isCounted_81 (by decide) ?_
      refine lv_goto (tgt := 86) hx hb dL_isCounted_82 (by decide) ?_
      refine lv_iadd hx hb dL_isCounted_86 ?_
      refine lv_icmp_ge (tgt := 92) hx hb dL_isCounted_87 (by decide) (fun c13 => ?_) (fun c13 => ?_)
      · have h := h.1 c13
        exact h _ _ (by omega) (by omega) _ _ hw _ (lv_sub hl [0, 1, 2] rfl)
      · have h := h.2 c13
        refine lv_iconst (v := 0) hx hb dL_isCounted_90 (by decide) ?_
        rw [hQ]
        refine W.widen (k := 240) (n := 122880) (by omega) (by omega) ?_
        exact ret_z C hr hlk hw h (by decide) dL_isCounted_91
  have h := h ?_
  rotate_left
  · intro t x1 x2 w h k n hk hn H locs hw ls hl
    obtain ⟨ht, h⟩ := h
    refine lv_aload_n hx hb dL_isCounted_92 rfl (lv_at hl 0 rfl) ?_
    refine lv_iload_n hx hb dL_isCounted_93 rfl (lv_at hl 2 rfl) ?_
    refine lv_aload_n hx hb dL_isCounted_94 rfl (lv_at hl 0 rfl) ?_
    refine lv_iload_n hx hb dL_isCounted_95 rfl (lv_at hl 2 rfl) ?_
    refine lv_iconst (v := 0) hx hb dL_isCounted_96 (by decide) ?_
    unfold wp_L_set at h
    refine done_xi hw (my_runVX (As := [.int x2, .int 0]) (rest := [.int x2, .ref (eA E 0)]) C hw 0 8 (hF 0 (by decide)) rfl rfl (mt_X8_set l hT C.2.2.2.2.2.2.2 hF _ _ _ h) K_m_L_98 K_i_X8_set K_v_X8_set K_n_X8 K_c_X8_set hy_X8_set ⟨Nat.le_of_ble_eq_true rfl, Nat.le_of_ble_eq_true rfl⟩ hl.1 rfl (Nat.le_of_ble_eq_true rfl) dL_isCounted_97 ⟨by show _ ≤ (240 : Nat); omega, by show _ ≤ (122880 : Nat); omega⟩) (fun ke q ce1 we H locs hk3 h hw hq hv hcl => ?_) (fun r12 w12 H locs h hw => ?_)
    · exact h.elim (fun h => absurd h.2.1 (by decide)) (fun h => absurd h.2.1 (by decide))
    have h := (h _ rfl).2
    have hw := Wo.sL hN hw (x := r12.toInt64)
    have er := gL_25 w12 r12
    generalize sL w12 25 0 r12.toInt64 = w12 at h hw er
    rw [← er]
    unfold wp_L_valueOf at h
    refine done_xi hw (my_runVX (As := [.int x2, .int ((gL w12 25 0).toInt32)]) (rest := []) C hw 0 8 (hF 0 (by decide)) rfl rfl (mt_X8_valueOf l hT C.2.2.2.2.2.2.2 hF _ _ _ h) K_m_L_115 K_i_X8_valueOf K_v_X8_valueOf K_n_X8 K_c_X8_valueOf hy_X8_valueOf ⟨Nat.le_of_ble_eq_true rfl, Nat.le_of_ble_eq_true rfl⟩ hl.1 rfl (Nat.le_of_ble_eq_true rfl) dL_isCounted_100 ⟨by show _ ≤ (240 : Nat); omega, by show _ ≤ (122880 : Nat); omega⟩) (fun ke q ce1 we H locs hk3 h hw hq hv hcl => ?_) (fun r13 w13 H locs h hw => ?_)
    · exact h.elim (fun h => absurd h.2.1 (by decide)) (fun h => absurd h.2.1 (by decide))
    have h := (h _ rfl).2
    have hw := Wo.sL hN hw (x := r13.toInt64)
    have er := gL_25 w13 r13
    generalize sL w13 25 0 r13.toInt64 = w13 at h hw er
    rw [← er]
    refine lv_aload_n hx hb dL_isCounted_103 rfl (lv_at hl 0 rfl) ?_
    refine lv_iload_n hx hb dL_isCounted_104 rfl (lv_at hl 2 rfl) ?_
    refine lv_iconst (v := 3) hx hb dL_isCounted_105 (by decide) ?_
    unfold wp_L_ladder at h
    refine done_xi hw (my_runVX (As := [.int x2, .int 3]) (rest := [.int ((gL w13 25 0).toInt32)]) C hw 0 8 (hF 0 (by decide)) rfl rfl (mt_X8_ladder l hT C.2.2.2.2.2.2.2 hF _ _ _ h) K_m_L_74 K_i_X8_ladder K_v_X8_ladder K_n_X8 K_c_X8_ladder hy_X8_ladder ⟨Nat.le_of_ble_eq_true rfl, Nat.le_of_ble_eq_true rfl⟩ hl.1 rfl (Nat.le_of_ble_eq_true rfl) dL_isCounted_106 ⟨by show _ ≤ (240 : Nat); omega, by show _ ≤ (122880 : Nat); omega⟩) (fun ke q ce1 we H locs hk3 h hw hq hv hcl => ?_) (fun r14 w14 H locs h hw => ?_)
    · exact h.elim (fun h => absurd h.2.1 (by decide)) (fun h => absurd h.2.1 (by decide))
    have h := (h _ rfl).2
    have hw := Wo.sL hN hw (x := r14.toInt64)
    have er := gL_25 w14 r14
    generalize sL w14 25 0 r14.toInt64 = w14 at h hw er
    rw [← er]
    refine lv_icmp_ne (tgt := 122) hx hb dL_isCounted_109 (by decide) (fun c14 => ?_) (fun c14 => ?_)
    · have h := h.2 c14
      refine lv_iconst (v := 0) hx hb dL_isCounted_122 (by decide) ?_
      rw [hQ]
      refine W.widen (k := 240) (n := 122880) (by omega) (by omega) ?_
      exact ret_z C hr hlk hw h (by decide) dL_isCounted_123
    · have h := h.1 c14
      refine lv_aload_n hx hb dL_isCounted_112 rfl (lv_at hl 0 rfl) ?_
      refine lv_iload_n hx hb dL_isCounted_113 rfl (lv_at hl 2 rfl) ?_
      unfold wp_L_meanValue at h
      refine done_xd hw (my_runVX (As := [.int x2]) (rest := []) C hw 0 8 (hF 0 (by decide)) rfl rfl (mt_X8_meanValue l hT C.2.2.2.2.2.2.2 hF _ _ h) K_m_L_118 K_i_X8_meanValue K_v_X8_meanValue K_n_X8 K_c_X8_meanValue hy_X8_meanValue ⟨Nat.le_of_ble_eq_true rfl, Nat.le_of_ble_eq_true rfl⟩ hl.1 rfl (Nat.le_of_ble_eq_true rfl) dL_isCounted_114 ⟨by show _ ≤ (240 : Nat); omega, by show _ ≤ (122880 : Nat); omega⟩) (fun ke q ce1 we H locs hk3 h hw hq hv hcl => ?_) (fun r15 w15 H locs h hw => ?_)
      · exact absurd h.2.1 (by decide)
      have h := h.2
      have hw := Wo.sD hN hw (x := r15)
      have er := gD_26 w15 r15
      generalize sD w15 26 0 r15 = w15 at h hw er
      rw [← er]
      refine lv_dconst0 hx hb dL_isCounted_117 ?_
      refine lv_dcmp hx hb dL_isCounted_118 ?_
      refine lv_if_ge (tgt := 124) hx hb dL_isCounted_119 (by decide) (fun c15 => ?_) (fun c15 => ?_)
      · have h := h.1 c15
        refine lv_iload_n hx hb dL_isCounted_124 rfl (lv_at hl 1 rfl) ?_
        refine lv_aload_n hx hb dL_isCounted_125 rfl (lv_at hl 0 rfl) ?_
        refine lv_iload_n hx hb dL_isCounted_126 rfl (lv_at hl 2 rfl) ?_
        unfold wp_L_stepsOn at h
        refine done_xi hw (my_runVX (As := [.int x2]) (rest := [.int x1]) C hw 0 8 (hF 0 (by decide)) rfl rfl (mt_X8_stepsOn l hT C.2.2.2.2.2.2.2 hF _ _ h) K_m_L_109 K_i_X8_stepsOn K_v_X8_stepsOn K_n_X8 K_c_X8_stepsOn hy_X8_stepsOn ⟨Nat.le_of_ble_eq_true rfl, Nat.le_of_ble_eq_true rfl⟩ hl.1 rfl (Nat.le_of_ble_eq_true rfl) dL_isCounted_127 ⟨by show _ ≤ (240 : Nat); omega, by show _ ≤ (122880 : Nat); omega⟩) (fun ke q ce1 we H locs hk3 h hw hq hv hcl => ?_) (fun r16 w16 H locs h hw => ?_)
        · exact absurd h.2.1 (by decide)
        have h := (h _ rfl).2
        have hw := Wo.sL hN hw (x := r16.toInt64)
        have er := gL_25 w16 r16
        generalize sL w16 25 0 r16.toInt64 = w16 at h hw er
        rw [← er]
        refine lv_iadd hx hb dL_isCounted_130 ?_
        refine lv_topi (fun y1 ey1 => ?_)
        have h := h y1 ey1
        refine lv_istore_n (lv' := [(1, .int y1), (0, .ref (eA E 0)), (2, .int x2)]) hx hb dL_isCounted_131 rfl hl (by decide) rfl (fun ls hl => ?_)
        obtain ⟨y2, ey2⟩ : ∃ y : Int32, y = x2 + 1 := ⟨_, rfl⟩
        have h := h y2 ey2
        refine lv_iinc (v := y2) (lv' := [(2, .int y2), (1, .int y1), (0, .ref (eA E 0))]) hx hb dL_isCounted_132 hl (k := 2) rfl (by rw [ey2]; first | rfl | decide) (by decide) rfl (fun ls hl => ?_)
        refine lv_goto (tgt := 4) hx hb dL_isCounted_135 (by decide) ?_
        exact h _ _ (by omega) (by omega) _ _ hw _ (lv_sub hl [2, 1, 0] rfl)
      · have h := h.2 c15
        refine lv_iconst (v := 0) hx hb dL_isCounted_122 (by decide) ?_
        rw [hQ]
        refine W.widen (k := 240) (n := 122880) (by omega) (by omega) ?_
        exact ret_z C hr hlk hw h (by decide) dL_isCounted_123
  refine lv_iconst (v := 0) hx hb dL_isCounted_0 (by decide) ?_
  refine lv_istore_n (lv' := [(1, .int 0), (0, .ref (eA E 0))]) hx hb dL_isCounted_1 rfl hl (by decide) rfl (fun ls hl => ?_)
  refine lv_iconst (v := 0) hx hb dL_isCounted_2 (by decide) ?_
  refine lv_istore_n (lv' := [(2, .int 0), (1, .int 0), (0, .ref (eA E 0))]) hx hb dL_isCounted_3 rfl hl (by decide) rfl (fun ls hl => ?_)
  exact h _ _ (by omega) (by omega) _ _ hw _ (lv_sub hl [2, 1, 0] rfl)

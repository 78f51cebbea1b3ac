/-! from the law's entry to its body -/
/-- the world behind the constructor -/
def St0 (w : Wd) : Prop := (gI w 1 1 = 0) ∧ ((gI w 34 6 = 0 ∧ gI w 34 7 = 0) ∧ (gI w 53 7 = 0 ∧ gI w 53 8 = 0 ∧ gI w 53 9 = -1 ∧ gI w 53 10 = -1 ∧ gI w 53 11 = -1 ∧ (∀ i, i < 6 → gA w 58 i = 1) ∧ (∀ i, gA w 59 i = 0)) ∧ (∀ r, r < 299 → gA w 6 r = nI (posT.getD r 0)) ∧ (gI w 41 1 = 0 ∧ gI w 41 2 = 0 ∧ gI w 41 3 = 0 ∧ gI w 41 4 = 0) ∧ (gI w 43 1 = 0 ∧ gI w 43 2 = 0 ∧ gI w 43 3 = 0 ∧ gI w 43 4 = 0) ∧ (gI w 45 1 = 0 ∧ gI w 45 2 = 0 ∧ gI w 45 3 = 0 ∧ gI w 45 4 = 0) ∧ (gI w 47 1 = 0 ∧ gI w 47 2 = 0 ∧ gI w 47 3 = 0 ∧ gI w 47 4 = 0) ∧ (gI w 49 1 = 0 ∧ gI w 49 2 = 0 ∧ gI w 49 3 = 0 ∧ gI w 49 4 = 0) ∧ (gI w 51 1 = 0 ∧ gI w 51 2 = 0 ∧ gI w 51 3 = 0 ∧ gI w 51 4 = 0)) ∧ (gI w 11 3 = 0 ∧ gI w 11 4 = 0 ∧ gA w 14 0 = 0 ∧ gA w 14 1 = 0)
set_option maxHeartbeats 4000000 in
set_option maxRecDepth 100000 in
theorem law_head {p : Program} {e : Env} {s : State} {m : MethodId} {below : List Frame} {meth : Method} {c : Code} (l : Launch) (hT : l.stackTraces = false) {b L : Nat} {xs : Nat → Int32} (hLL : L ≤ 260) {E0 : En} (C : Cc E0 (fun q => s.heap.size ≤ q) p s m #[Value.ref b] c code 7 "CoinLaddersLaw") (hb3 : eT E0 300 = b) (hN : eN E0 = L) (hXs : eX E0 = xs) (hr : meth.sig.returnType = ret) (hlk : meth.locks = false) (hlaw : ∀ w, St0 w → wp_law L xs w) (ls : Array Slot) (hl : lv_has ls 7 [(0, .ref b)]) : W p l e room_1 s m #[Value.ref b] below meth c s.heap [] 0 0 (lw_Z below #[Value.ref b] s) (F0 m 0 ls []) := by
  have hx := C.1
  have hb := C.2.1
  have hP : va_P E0.1 vwCl ([] ++ []) s.heap := fun k q h => absurd h (by simp)
  have hD : va_D (fun q => s.heap.size ≤ q) ([] ++ []) := ⟨fun i j p q h => absurd h (by simp), fun k q h => absurd h (by simp)⟩
  have hS : va_S (fun q => s.heap.size ≤ q) s.heap s.heap [] := va_S.rf
  refine ct_new (X := []) (pl := []) C hP hD hS 8 tyX8 tyX8_ok rfl inB8 K_k_L_52 K_a_X8 K_n_X8 (fs := [.null, .null, .null]) (fun j hj => by rcases (show j = 0 ∨ j = 1 ∨ j = 2 by omega) with rfl | rfl | rfl <;> rfl) ⟨Nat.le_of_ble_eq_true rfl, Nat.le_of_ble_eq_true rfl⟩ dL_law_0 (fun q1 H hP hD hS => ?_)
  refine lv_dup hx hb dL_law_3 rfl ?_
  refine ct_init (X := []) (pl := []) C hP hD hS (mt_X8_init l E0) K_m_L_60 K_i_X8_init K_n_X8 K_c_X8_init rfl hy_X8_init ⟨Nat.le_of_ble_eq_true rfl, Nat.le_of_ble_eq_true rfl⟩ hl.1 (Nat.le_of_ble_eq_true rfl) dL_law_4 ⟨Nat.le_of_ble_eq_true rfl, Nat.le_of_ble_eq_true rfl⟩ (fun u w H locs hu hp hPn hDn hS => ?_)
  subst hu
  refine lv_astore_n (lv' := [(1, .ref (u 0)), (0, .ref b)]) hx hb dL_law_7 rfl hl (by decide) rfl (fun ls hl => ?_)
  have hP2 := hPn.sub (ws' := wsE (EW E0 ids_L u) w) [0, 1, 2, 10, 11, 30, 31, 32, 28, 29, 12, 45, 46, 47, 48, 3, 4, 5, 6, 7, 8, 9, 13, 14, 15, 16, 17, 18, 19, 33, 34, 35, 36, 37, 38, 39, 40, 41, 42, 43, 44, 20, 21, 22, 23, 24, 25, 26, 27, 49, 50, 51, 52, 53, 54, 55, 56, 57, 58, 59, 60, 61, 62, 63, 64, 65, 66, 67, 68, 69, 70, 71, 72, 73, 74, 75, 76, 77, 78, 79, 80, 81, 82, 83, 84, 85, 86, 87, 88, 89, 90, 91, 92, 93, 94, 95, 96, 97, 98, 99, 100, 101, 102, 103, 104, 105, 106, 107, 108, 109, 110, 111, 112, 113, 114, 115, 116, 117, 118, 119, 120, 121, 122, 123, 124, 125, 126, 127, 128, 129, 130, 131, 132, 133, 134, 135, 136, 137, 138, 139, 140, 141, 142, 143, 144] rfl
  have hD2 := hDn.sub (ws' := wsE (EW E0 ids_L u) w) [0, 1, 2, 10, 11, 30, 31, 32, 28, 29, 12, 45, 46, 47, 48, 3, 4, 5, 6, 7, 8, 9, 13, 14, 15, 16, 17, 18, 19, 33, 34, 35, 36, 37, 38, 39, 40, 41, 42, 43, 44, 20, 21, 22, 23, 24, 25, 26, 27, 49, 50, 51, 52, 53, 54, 55, 56, 57, 58, 59, 60, 61, 62, 63, 64, 65, 66, 67, 68, 69, 70, 71, 72, 73, 74, 75, 76, 77, 78, 79, 80, 81, 82, 83, 84, 85, 86, 87, 88, 89, 90, 91, 92, 93, 94, 95, 96, 97, 98, 99, 100, 101, 102, 103, 104, 105, 106, 107, 108, 109, 110, 111, 112, 113, 114, 115, 116, 117, 118, 119, 120, 121, 122, 123, 124, 125, 126, 127, 128, 129, 130, 131, 132, 133, 134, 135, 136, 137, 138, 139, 140, 141, 142, 143, 144] (by decide +kernel) rfl
  obtain ⟨C2, hw2⟩ := ct_enter C (by decide +kernel) hP2 hD2 hS (fun q h => Or.inr (Or.inr h))
  have hge : ∀ o, o ∈ ids_L → s.heap.size ≤ u o := fun o ho => by
    obtain ⟨k0, hk0⟩ := List.getElem?_of_mem ho
    exact hD2.2 k0 _ (ws_i (w := w) hk0)
  refine law_body l hT C2 hr hlk rfl (show eN E0 < 2 ^ 30 by rw [hN]; omega) rfl (fun q h => h) hge rfl w ?_ (by decide) (by decide) hw2 ls ?_
  · show wp_law (eN E0) (eX E0) w
    rw [hN, hXs]
    exact hlaw _ hp
  · have e : eT (EW E0 ids_L u) 300 = b := hb3
    rw [e]
    exact lv_sub hl [1, 0] rfl
/-! the law's walk, from what is to be shown of the world -/
theorem whole_of {p : Program} {e : Env} {s : State} {m : MethodId} {below : List Frame} {meth : Method} {c : Code} (l : Launch) (hflags : l.flags = flags0) {b L : Nat} {xs : Nat → Int32} (hL : L ≤ 260) (hlaw : ∀ w, St0 w → wp_law L xs w) (C0 : lw_At p s m meth c b L xs) : W p l e room_1 s m #[Value.ref b] below meth c s.heap [] 0 0 (lw_Z below #[Value.ref b] s) (entryFrame m ([Value.ref b] : List Value).toArray 7) := by
  have hT : l.stackTraces = false := by
    unfold Launch.stackTraces
    rw [hflags]
    decide +kernel
  obtain ⟨E0, C, hb3, hN, hXs⟩ := start_C C0
  have hl := lv_entry [Value.ref b] (n := 7) (Nat.le_of_ble_eq_true rfl)
  rw [lg_entry_eq]
  generalize (lg_sl [Value.ref b] ++ List.replicate (7 - (lg_sl [Value.ref b]).length) Slot.unset).toArray = ls at hl ⊢
  exact law_head l hT hL C hb3 hN hXs C0.2.2.1 C0.2.2.2.2.2.2.2.2.1 hlaw ls hl


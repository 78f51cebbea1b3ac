/-! what stands beside the class's objects while the law makes its text: the StringBuilder (15), its row (16), five ints (20) -/
theorem cFx_cong {E E' : En} (hc : eC E' = eC E) (hA : ∀ j, j ≠ 15 → j ≠ 16 → j ≠ 20 → eA E' j = eA E j) {o : Nat} (ho : o < 27) (h15 : o ≠ 15) (I A : Nat → Int32) (L : Nat → Int64) (Dd : Nat → UInt64) : cFx E' o I A L Dd = cFx E o I A L Dd := by
  have e1 : (fun j => some (eA E' (41 + 2 * j))) = (fun j => some (eA E (41 + 2 * j))) := funext fun j => by rw [hA _ (by omega) (by omega) (by omega)]
  have e2 : (fun j => some (eA E' (53 + 8 * (j + 1)))) = (fun j => some (eA E (53 + 8 * (j + 1)))) := funext fun j => by rw [hA _ (by omega) (by omega) (by omega)]
  have e3 : (fun j => some (eA E' (53 + 8 * (j + 11)))) = (fun j => some (eA E (53 + 8 * (j + 11)))) := funext fun j => by rw [hA _ (by omega) (by omega) (by omega)]
  have k0 := hA 1 (by decide) (by decide) (by decide)
  have k1 := hA 3 (by decide) (by decide) (by decide)
  have k2 := hA 11 (by decide) (by decide) (by decide)
  have k3 := hA 27 (by decide) (by decide) (by decide)
  have k4 := hA 2 (by decide) (by decide) (by decide)
  have k5 := hA 34 (by decide) (by decide) (by decide)
  have k6 := hA 53 (by decide) (by decide) (by decide)
  have k7 := hA 8 (by decide) (by decide) (by decide)
  have k8 := hA 4 (by decide) (by decide) (by decide)
  have k9 := hA 5 (by decide) (by decide) (by decide)
  have k10 := hA 10 (by decide) (by decide) (by decide)
  have k11 := hA 6 (by decide) (by decide) (by decide)
  have k12 := hA 7 (by decide) (by decide) (by decide)
  have k13 := hA 9 (by decide) (by decide) (by decide)
  have k14 := hA 12 (by decide) (by decide) (by decide)
  have k15 := hA 13 (by decide) (by decide) (by decide)
  have k16 := hA 14 (by decide) (by decide) (by decide)
  unfold cFx
  split <;> first | omega | simp only [hc, e1, e2, e3, k0, k1, k2, k3, k4, k5, k6, k7, k8, k9, k10, k11, k12, k13, k14, k15, k16]
theorem ce_cong {E E' : En} {w : Wd} (hc : eC E' = eC E) (hA : ∀ j, j ≠ 15 → j ≠ 16 → j ≠ 20 → eA E' j = eA E j) {o : Nat} (h15 : o ≠ 15) : ce E' w o = ce E w o := by
  unfold ce cX
  by_cases h53 : 53 ≤ o
  · rw [if_pos h53, if_pos h53]
    by_cases h8 : (o - 53) % 8 = 0
    · rw [if_pos h8, if_pos h8]
      unfold cSt
      rw [hA _ (by omega) (by omega) (by omega), hA _ (by omega) (by omega) (by omega), hA _ (by omega) (by omega) (by omega), hA _ (by omega) (by omega) (by omega), hA _ (by omega) (by omega) (by omega), hA _ (by omega) (by omega) (by omega), hA _ (by omega) (by omega) (by omega)]
    · rw [if_neg h8, if_neg h8, hc]
  · rw [if_neg h53, if_neg h53]
    by_cases h41 : 41 ≤ o
    · rw [if_pos h41, if_pos h41]
      by_cases h2 : (o - 41) % 2 = 0
      · rw [if_pos h2, if_pos h2]
        unfold cLv
        rw [hA _ (by omega) (by omega) (by omega)]
      · rw [if_neg h2, if_neg h2, hc]
    · rw [if_neg h41, if_neg h41]
      by_cases h27 : 27 ≤ o
      · rw [if_pos h27, if_pos h27]
        by_cases h7 : (o - 27) % 7 = 0
        · rw [if_pos h7, if_pos h7]
          unfold cSe
          rw [hA _ (by omega) (by omega) (by omega), hA _ (by omega) (by omega) (by omega), hA _ (by omega) (by omega) (by omega), hA _ (by omega) (by omega) (by omega), hA _ (by omega) (by omega) (by omega), hA _ (by omega) (by omega) (by omega)]
        · rw [if_neg h7, if_neg h7, hc]
      · rw [if_neg h27, if_neg h27]
        exact cFx_cong hc hA (by omega) h15 _ _ _ _
def ids_L : List Nat := [0, 1, 2, 3, 4, 5, 6, 7, 8, 9, 10, 11, 12, 13, 14, 27, 28, 29, 30, 31, 32, 33, 34, 35, 36, 37, 38, 39, 40, 41, 42, 43, 44, 45, 46, 47, 48, 49, 50, 51, 52, 53, 54, 55, 56, 57, 58, 59, 60, 61, 62, 63, 64, 65, 66, 67, 68, 69, 70, 71, 72, 73, 74, 75, 76, 77, 78, 79, 80, 81, 82, 83, 84, 85, 86, 87, 88, 89, 90, 91, 92, 93, 94, 95, 96, 97, 98, 99, 100, 101, 102, 103, 104, 105, 106, 107, 108, 109, 110, 111, 112, 113, 114, 115, 116, 117, 118, 119, 120, 121, 122, 123, 124, 125, 126, 127, 128, 129, 130, 131, 132, 133, 134, 135, 136, 137, 138, 139, 140, 141, 142, 143, 144, 145, 146, 147, 148, 149, 150, 151, 152, 153, 154, 155, 156]
theorem ids_L_F : ∀ o, (o < 15 ∨ 27 ≤ o ∧ o < 157) → o ∈ ids_L := by
  intro o h
  have k : ∀ o, o < 157 → (o < 15 ∨ 27 ≤ o) → o ∈ ids_L := by decide +kernel
  exact k o (by omega) (by omega)
theorem ids_L_N : ∀ o, o ∈ ids_L → o < 15 ∨ 27 ≤ o ∧ o < 157 := by decide +kernel
theorem ids_L_D : ids_L.Nodup := by decide +kernel
def Bg (E E1 : En) (sz : Nat) (ex : List Nat) : Prop := (E1.1 = E.1 ∧ E1.2.1 = E.2.1 ∧ E1.2.2.2.1 = E.2.2.2.1 ∧ E1.2.2.2.2.2.2 = E.2.2.2.2.2.2) ∧ eL E1 = ex ++ 15 :: 16 :: ids_L ∧ (∀ o, o ≠ 15 → o ≠ 16 → o ≠ 20 → eA E1 o = eA E o) ∧ (∀ o, o ∈ ex ++ [15, 16] → sz ≤ eA E1 o) ∧ (∀ q, eJ E1 q → sz ≤ q)
theorem Bg.x {E E1 : En} {sz : Nat} {ex : List Nat} (h : Bg E E1 sz ex) : eN E1 = eN E ∧ eX E1 = eX E := ⟨congrArg Prod.fst h.1.2.2.2, congrArg Prod.snd h.1.2.2.2⟩
theorem Bg.F {E E1 : En} {sz : Nat} {ex : List Nat} (h : Bg E E1 sz ex) : ∀ o, (o = 15 ∨ o = 16) → o ∈ eL E1 := by
  intro o ho
  rw [h.2.1]
  refine List.mem_append_right _ ?_
  rcases ho with rfl | rfl
  · exact List.mem_cons_self
  · exact List.mem_cons_of_mem _ List.mem_cons_self
theorem Bg.L {E E1 : En} {sz : Nat} {ex : List Nat} (h : Bg E E1 sz ex) : ∀ o, o ∈ ids_L → o ∈ eL E1 := by
  intro o ho
  rw [h.2.1]
  exact List.mem_append_right _ (List.mem_cons_of_mem _ (List.mem_cons_of_mem _ ho))
theorem Bg.of {E E1 : En} {sz : Nat} {ex : List Nat} (h : Bg E E1 sz ex) : ∀ o, o ∈ eL E1 → o ∈ ids_L ∨ o ∈ ex ++ [15, 16] := by
  intro o ho
  rw [h.2.1] at ho
  rcases List.mem_append.mp ho with h1 | h1
  · exact Or.inr (List.mem_append_left _ h1)
  · rcases List.mem_cons.mp h1 with rfl | h1
    · exact Or.inr (List.mem_append_right _ (by decide))
    · rcases List.mem_cons.mp h1 with rfl | h1
      · exact Or.inr (List.mem_append_right _ (by decide))
      · exact Or.inl h1
theorem Bg.up {E E1 : En} {sz a : Nat} {ex : List Nat} (h : Bg E E1 sz ex) (ha : AA E1 sz a) (hI : Inj (eUp E1 a)) (hex : ∀ o, o ∈ ex → o = 20) : Bg E (eUp E1 a) sz ex := by
  have h16 : 16 ∈ eL E1 := h.F 16 (Or.inr rfl)
  have hx16 : sz ≤ eA E1 16 := h.2.2.2.1 16 (List.mem_append_right _ (by decide))
  have hsz : sz ≤ a := by
    rcases ha with ⟨o, ho, e⟩ | e | e
    · by_cases e16 : o = 16
      · rw [e, e16]
        exact hx16
      · exact absurd (hI.2 o 16 ho h16 (by rw [eUp_A E1 a e16, eUp_16, e])) e16
    · exact h.2.2.2.2 _ e
    · exact e
  refine ⟨h.1, h.2.1, fun o h1 h2 h3 => (eUp_A E1 a h2).trans (h.2.2.1 o h1 h2 h3), fun o ho => ?_, fun q hq => ?_⟩
  · by_cases e16 : o = 16
    · rw [e16, eUp_16]
      exact hsz
    · rw [eUp_A E1 a e16]
      exact h.2.2.2.1 o ho
  · rcases hq with hq | hq
    · exact h.2.2.2.2 q hq
    · rw [hq]
      exact hx16
theorem Bg.AA {E E1 : En} {sz : Nat} {ex : List Nat} (h : Bg E E1 sz ex) (hL : eL E = ids_L) : ∀ q, AA E1 sz q → AA E sz q := by
  rintro q (⟨o, ho, e⟩ | e | e)
  · rcases h.of o ho with h1 | h1
    · have := ids_L_N o h1
      exact Or.inl ⟨o, by rw [hL]; exact h1, by rw [e]; exact h.2.2.1 o (by omega) (by omega) (by omega)⟩
    · exact Or.inr (Or.inr (by rw [e]; exact h.2.2.2.1 o h1))
  · exact Or.inr (Or.inr (h.2.2.2.2 q e))
  · exact Or.inr (Or.inr e)
def ERb (E : En) : En := (E.1, E.2.1, E.2.2.1, E.2.2.2.1, ids_L, fun _ => False, E.2.2.2.2.2.2)
theorem ERb_F (E : En) : ∀ o, (o < 15 ∨ 27 ≤ o ∧ o < 157) → o ∈ eL (ERb E) := ids_L_F
theorem ERb_N (E : En) : ∀ o, o ∈ eL (ERb E) → o ≠ 25 ∧ o ≠ 26 := fun o h => by have := ids_L_N o h; omega
def pC : Nat → Bool := fun o => decide (o < 15) || decide (27 ≤ o)
def mx (p : Nat → Bool) (w w1 : Wd) : Wd := (fun o => if p o = true then w1.1 o else w.1 o, fun o => if p o = true then w1.2.1 o else w.2.1 o, fun o => if p o = true then w1.2.2.1 o else w.2.2.1 o, fun o => if p o = true then w1.2.2.2 o else w.2.2.2 o)
theorem pC_L {o : Nat} (h : o ∈ ids_L) : pC o = true := by
  have := ids_L_N o h
  unfold pC
  rw [Bool.or_eq_true, decide_eq_true_eq, decide_eq_true_eq]
  omega
theorem ERb_AA {E E1 : En} {sz sz2 : Nat} {ex : List Nat} (h : Bg E E1 sz ex) : ∀ q, AA (ERb E1) sz2 q → AA E1 sz2 q := by
  rintro q (⟨o, ho, e⟩ | e | e)
  · exact Or.inl ⟨o, h.L o ho, e⟩
  · exact e.elim
  · exact Or.inr (Or.inr e)
section LBG
variable {E E1 : En} {ex : List Nat} {p : Program} {l : Launch} {e : Env} {R : Room} {s : State} {m : MethodId} {args : Array Value} {below : List Frame} {meth : Method} {c : Code} {H : Heap} {locs : List Loc} {cells slots : Nat} {Q : State → Prop} {cc : ByteArray} {nL pc : Nat} {own : String} {ls : Array Slot} {rest st0 : List Value} {w : Wd}
theorem ERb_C (hB : Bg E E1 s.heap.size ex) (C : Cx E1 p s m args c cc nL own) : Cx (ERb E1) p s m args c cc nL own := by
  obtain ⟨h1, h2, h3, h4, h5, h6, h7, h8⟩ := C
  refine ⟨h1, h2, h3, h4, h5, h6, h7.less rfl (ERb_AA hB), ids_L_D, fun i j hi hj h => h8.2 i j (hB.L i hi) (hB.L j hj) h⟩
theorem ERb_W (hB : Bg E E1 s.heap.size ex) (hw : Wo E1 s w H locs) : Wo (ERb E1) s w H locs := by
  have key : ∀ q, AA E1 s.heap.size q → AA (ERb E1) s.heap.size q := by
    rintro q (⟨o, ho, e⟩ | e | e)
    · rcases hB.of o ho with h1 | h1
      · exact Or.inl ⟨o, h1, e⟩
      · exact Or.inr (Or.inr (by rw [e]; exact hB.2.2.2.1 o h1))
    · exact Or.inr (Or.inr (hB.2.2.2.2 q e))
    · exact Or.inr (Or.inr e)
  refine ⟨fun k x hk => ?_, hw.2.mono key⟩
  obtain ⟨o, ho, rfl⟩ := ws_of hk
  obtain ⟨k0, hk0⟩ := List.getElem?_of_mem (hB.L o (List.mem_of_getElem? ho))
  exact hw.1 k0 _ (ws_i hk0)
theorem ERb_back {w1 : Wd} {H1 : Heap} {locs1 : List Loc} (hB : Bg E E1 s.heap.size ex) (hex : ∀ o, o ∈ ex → o = 20) (C : Cx E1 p s m args c cc nL own) (hw : Wo E1 s w H locs) (h1 : va_P E1.1 vwCl (wsE (ERb E1) w1) H1) (hk : ∀ x : Nat, x < H.size → ¬ AA (ERb E1) H.size x → H1[x]? = H[x]?) (hS : va_S (AA E1 s.heap.size) s.heap H1 locs1) : Wo E1 s (mx pC w w1) H1 locs1 := by
  refine ⟨fun k x hx => ?_, hS⟩
  obtain ⟨o, ho, rfl⟩ := ws_of hx
  have hm := List.mem_of_getElem? ho
  rcases hB.of o hm with hq | hq
  · obtain ⟨k0, hk0⟩ := List.getElem?_of_mem hq
    have e : ce E1 (mx pC w w1) o = ce (ERb E1) w1 o := by
      unfold ce mx
      simp only [pC_L hq, if_true]
      rfl
    rw [e]
    exact h1 k0 _ (ws_i (E := ERb E1) hk0)
  · have hn : pC o = false := by
      have : o = 15 ∨ o = 16 ∨ o = 20 := by
        rcases List.mem_append.mp hq with h | h
        · exact Or.inr (Or.inr (hex o h))
        · simp at h
          omega
      rcases this with rfl | rfl | rfl <;> rfl
    have e : ce E1 (mx pC w w1) o = ce E1 w o := by
      unfold ce mx
      simp only [hn]
      rfl
    have hold := hw.1 k _ (ws_i ho)
    rw [e]
    refine hold.kept (hk _ hold.lt (fun h => ?_))
    rcases h with ⟨o2, h2, h3⟩ | h | h
    · have : o = o2 := C.2.2.2.2.2.2.2.2 o o2 hm (hB.L o2 h2) h3
      rw [this, pC_L h2] at hn
      cases hn
    · exact h
    · exact absurd h (Nat.not_le.mpr hold.lt)
theorem lb_done_i {Post : Int32 → Wd → Prop} {a : Array Value} (hB : Bg E E1 s.heap.size ex) (hex : ∀ o, o ∈ ex → o = 20) (C : Cx E1 p s m args c cc nL own) (hw : Wo E1 s w H locs) (hr : va_Run p l e R s m args below meth c H locs cells slots 0 0 (F0 m pc ls st0) rest (va_Qi Post (PW (ERb E1)) (AA (ERb E1) H.size) a) (AA (ERb E1) H.size))
    (kk : ∀ (r : Int32) (w1 : Wd) (H1 : Heap) (locs1 : List Loc), Post r w1 → Wo E1 s (mx pC w w1) H1 locs1 → W p l e R s m args below meth c H1 locs1 cells slots Q (F0 m (pc + 3) ls (.int r :: rest))) : W p l e R s m args below meth c H locs cells slots Q (F0 m pc ls st0) :=
  va_calli hr hw.2 (fun x _ h => AA_mono hw.2.1 x (ERb_AA hB x h)) (fun x h => AA_mono hw.2.1 x (ERb_AA hB x h)) (fun r u t H1 locs1 ht _ hp hB1 _ hk1 hS => kk r u H1 locs1 hp (ERb_back hB hex C hw (ht ▸ hB1) hk1 hS))
theorem lb_done_xi {Post : Int32 → Wd → Prop} {Ex : Nat → Wd → Prop} {a : Array Value} {mc ms : Nat} (hB : Bg E E1 s.heap.size ex) (hex : ∀ o, o ∈ ex → o = 20) (C : Cx E1 p s m args c cc nL own) (hw : Wo E1 s w H locs) (hr : vx_Run p l e R s m args below meth c H locs cells slots mc ms (F0 m pc ls st0) rest (va_Qi Post (PW (ERb E1)) (AA (ERb E1) H.size) a) (XE (ERb E1) Ex H.size) (AA (ERb E1) H.size)) (hx : ∀ k w1, Ex k w1 → False)
    (kk : ∀ (r : Int32) (w1 : Wd) (H1 : Heap) (locs1 : List Loc), Post r w1 → Wo E1 s (mx pC w w1) H1 locs1 → W p l e R s m args below meth c H1 locs1 (cells + mc) (slots + ms) Q (F0 m (pc + 3) ls (.int r :: rest))) : W p l e R s m args below meth c H locs cells slots Q (F0 m pc ls st0) :=
  vx_calli hr hw.2 (fun x _ h => AA_mono hw.2.1 x (ERb_AA hB x h)) (fun x h => AA_mono hw.2.1 x (ERb_AA hB x h)) (fun x _ h => AA_mono hw.2.1 x (ERb_AA hB x h))
    (fun nm ce1 q9 u t H1 locs1 ht _ _ hB1 _ _ hS g1 g2 g3 => by
      obtain ⟨k, hk, rfl, hex, hp⟩ := hB1
      exact (hx k _ hex).elim)
    (fun r u t H1 locs1 ht _ hp hB1 _ hk1 hS => kk r u H1 locs1 hp (ERb_back hB hex C hw (ht ▸ hB1) hk1 hS))
/-- five ints are made -/
def eAdd (E1 : En) (q : Nat) : En := (E1.1, E1.2.1, va_up E1.2.2.1 20 q, E1.2.2.2.1, 20 :: eL E1, E1.2.2.2.2.2.1, E1.2.2.2.2.2.2)
theorem eAdd_A (E1 : En) (q : Nat) {o : Nat} (h : o ≠ 20) : eA (eAdd E1 q) o = eA E1 o := va_up_ne _ _ h
theorem eAdd_20 (E1 : En) (q : Nat) : eA (eAdd E1 q) 20 = q := va_up_self E1.2.2.1 20 q
theorem ce_add {E1 : En} {w : Wd} {q o : Nat} : ce (eAdd E1 q) w o = ce E1 w o := by
  by_cases h15 : o = 15
  · subst h15
    rfl
  · exact ce_cong (E := E1) (E' := eAdd E1 q) rfl (fun j _ _ h => eAdd_A E1 q h) h15
theorem r_new5 {n : Int32} (hB : Bg E E1 s.heap.size []) (C : Cx E1 p s m args c cc nL own) (hw : Wo E1 s w H locs) (hn : n = 5) (hc : cells + 1 ≤ R.cells ∧ slots + 5 ≤ R.slots) (hd : decode cc pc = .ok (.newarray .int, 2))
    (kk : ∀ (q : Nat) (H1 : Heap), Bg E (eAdd E1 q) s.heap.size [20] → Cx (eAdd E1 q) p s m args c cc nL own → Wo (eAdd E1 q) s (sF w 20 (fun _ => 0)) H1 locs → W p l e R s m args below meth c H1 locs (cells + 1) (slots + 5) Q (F0 m (pc + 2) ls (.ref (eA (eAdd E1 q) 20) :: rest))) : W p l e R s m args below meth c H locs cells slots Q (F0 m pc ls (.int n :: rest)) := by
  subst hn
  obtain ⟨hP, hS⟩ := hw
  have hI := C.2.2.2.2.2.2.2
  have hP : va_P E1.1 vwCl (wsE E1 w ++ []) H := by rw [List.append_nil]; exact hP
  have hD : va_D (AA E1 s.heap.size) (wsE E1 w ++ []) := by rw [List.append_nil]; exact ws_D hI
  refine ct_newa (X := wsE E1 w) (pl := []) C.toC hP hD hS 0 (ty := .int) (atype := .int) rfl K_r_FieldType_int rfl (N := 5) (a0 := (5, .inl (fun _ => 0))) (fun _ => rfl) (by decide) (by decide) (Nat.le_of_ble_eq_true rfl) hc hd (fun q H hP hD hS => ?_)
  rw [List.append_nil] at hP hD
  have hlen : (wsE E1 w).length = (eL E1).length := by simp [wsE]
  have hlast : (wsE E1 w ++ [(q, (.inl (eC E1 0, 5, .inl (fun _ => 0)) : va_E))])[(wsE E1 w).length]? = some (q, .inl (eC E1 0, 5, .inl (fun _ => 0))) := by
    rw [List.getElem?_append_right (Nat.le_refl _), Nat.sub_self]
    rfl
  have hold : ∀ {k o : Nat}, (eL E1)[k]? = some o → (wsE E1 w ++ [(q, (.inl (eC E1 0, 5, .inl (fun _ => 0)) : va_E))])[k]? = some (eA E1 o, ce E1 w o) := by
    intro k o h
    have : k < (wsE E1 w).length := by rw [hlen]; exact (List.getElem?_eq_some_iff.mp h).1
    rw [List.getElem?_append_left this]
    exact ws_i h
  have hne : ∀ o, o ∈ eL E1 → eA E1 o ≠ q := by
    intro o ho e
    obtain ⟨k, hk⟩ := List.getElem?_of_mem ho
    have h1 := hD.1 k (wsE E1 w).length _ _ (hold hk) hlast e
    have h2 := (List.getElem?_eq_some_iff.mp hk).1
    omega
  have hq : AA E1 s.heap.size q := hD.2 _ _ hlast
  have hqz : s.heap.size ≤ q := by
    rcases hq with ⟨o, ho, e⟩ | e | e
    · exact absurd e.symm (hne o ho)
    · exact hB.2.2.2.2 q e
    · exact e
  have h20 : 20 ∉ eL E1 := by
    intro h
    rcases hB.of 20 h with h | h
    · have := ids_L_N 20 h
      omega
    · simp at h
  have hAA : ∀ x, AA (eAdd E1 q) s.heap.size x ↔ AA E1 s.heap.size x := by
    intro x
    constructor
    · rintro (⟨o, ho, e⟩ | e | e)
      · rcases List.mem_cons.mp (show o ∈ 20 :: eL E1 from ho) with rfl | h
        · rw [eAdd_20] at e
          exact Or.inr (Or.inr (by omega))
        · exact Or.inl ⟨o, h, by rw [e]; exact eAdd_A E1 q (fun z => h20 (z ▸ h))⟩
      · exact Or.inr (Or.inl e)
      · exact Or.inr (Or.inr e)
    · rintro (⟨o, ho, e⟩ | e | e)
      · exact Or.inl ⟨o, List.mem_cons_of_mem _ ho, by rw [e]; exact (eAdd_A E1 q (fun z => h20 (z ▸ ho))).symm⟩
      · exact Or.inr (Or.inl e)
      · exact Or.inr (Or.inr e)
  have hI2 : Inj (eAdd E1 q) := by
    refine ⟨List.nodup_cons.mpr ⟨h20, hI.1⟩, fun i j hi hj h => ?_⟩
    rcases List.mem_cons.mp (show i ∈ 20 :: eL E1 from hi) with ei | hi
    · rcases List.mem_cons.mp (show j ∈ 20 :: eL E1 from hj) with ej | hj
      · rw [ei, ej]
      · rw [ei, eAdd_20, eAdd_A E1 q (fun z => h20 (z ▸ hj))] at h
        exact absurd h.symm (hne j hj)
    · rcases List.mem_cons.mp (show j ∈ 20 :: eL E1 from hj) with ej | hj
      · rw [ej, eAdd_20, eAdd_A E1 q (fun z => h20 (z ▸ hi))] at h
        exact absurd h (hne i hi)
      · rw [eAdd_A E1 q (fun z => h20 (z ▸ hi)), eAdd_A E1 q (fun z => h20 (z ▸ hj))] at h
        exact hI.2 i j hi hj h
  have hk := kk q H ⟨hB.1, by show 20 :: eL E1 = _; rw [hB.2.1]; rfl, fun o h1 h2 h3 => (eAdd_A E1 q h3).trans (hB.2.2.1 o h1 h2 h3), fun o ho => ?_, hB.2.2.2.2⟩
    ⟨C.1, C.2.1, C.2.2.1, C.2.2.2.1, C.2.2.2.2.1, C.2.2.2.2.2.1, C.2.2.2.2.2.2.1.less rfl (fun x h => (hAA x).mp h), hI2⟩
    ⟨fun k x hx => ?_, hS.mono (fun x h => (hAA x).mpr h)⟩
  · rw [eAdd_20] at hk
    exact hk
  · rcases List.mem_cons.mp (show o ∈ 20 :: [15, 16] from ho) with rfl | ho
    · rw [eAdd_20]
      exact hqz
    · have : o ≠ 20 := by
        rcases List.mem_cons.mp ho with rfl | ho
        · decide
        · simp at ho
          omega
      rw [eAdd_A E1 q this]
      exact hB.2.2.2.1 o ho
  · obtain ⟨o, ho, rfl⟩ := ws_of hx
    cases k with
    | zero =>
      have : o = 20 := (Option.some.inj (show some 20 = some o from ho)).symm
      subst this
      rw [eAdd_20, show ce (eAdd E1 q) (sF w 20 (fun _ => 0)) 20 = .inl (eC E1 0, 5, .inl (fun _ => 0)) from rfl]
      exact hP _ _ hlast
    | succ k =>
      have ho : (eL E1)[k]? = some o := ho
      have hne2 : o ≠ 20 := fun z => h20 (z ▸ List.mem_of_getElem? ho)
      rw [eAdd_A E1 q hne2, ce_add, ce_sF hne2]
      exact hP k _ (hold ho)
/-- the five ints are let go -/
def eDrop (E1 : En) : En := (E1.1, E1.2.1, E1.2.2.1, E1.2.2.2.1, 15 :: 16 :: ids_L, fun q => E1.2.2.2.2.2.1 q ∨ q = E1.2.2.1 20, E1.2.2.2.2.2.2)
theorem bg_drop (hB : Bg E E1 s.heap.size [20]) (C : Cx E1 p s m args c cc nL own) (hw : Wo E1 s w H locs) : Bg E (eDrop E1) s.heap.size [] ∧ Cx (eDrop E1) p s m args c cc nL own ∧ Wo (eDrop E1) s w H locs := by
  have hm : ∀ o, o ∈ eL (eDrop E1) → o ∈ eL E1 := by
    intro o ho
    rw [hB.2.1]
    exact List.mem_cons_of_mem _ ho
  have h20 : s.heap.size ≤ eA E1 20 := hB.2.2.2.1 20 List.mem_cons_self
  have h20m : 20 ∈ eL E1 := by
    rw [hB.2.1]
    exact List.mem_cons_self
  have hAA : ∀ x, AA (eDrop E1) s.heap.size x ↔ AA E1 s.heap.size x := by
    intro x
    constructor
    · rintro (⟨o, ho, e⟩ | (e | e) | e)
      · exact Or.inl ⟨o, hm o ho, e⟩
      · exact Or.inr (Or.inl e)
      · exact Or.inl ⟨20, h20m, e⟩
      · exact Or.inr (Or.inr e)
    · rintro (⟨o, ho, e⟩ | e | e)
      · rw [hB.2.1] at ho
        rcases List.mem_cons.mp (show o ∈ 20 :: (15 :: 16 :: ids_L) from ho) with rfl | ho
        · exact Or.inr (Or.inl (Or.inr e))
        · exact Or.inl ⟨o, ho, e⟩
      · exact Or.inr (Or.inl (Or.inl e))
      · exact Or.inr (Or.inr e)
  have hI := C.2.2.2.2.2.2.2
  have hnd : (15 :: 16 :: ids_L).Nodup := by decide +kernel
  refine ⟨⟨hB.1, rfl, hB.2.2.1, fun o ho => hB.2.2.2.1 o (List.mem_cons_of_mem _ ho), fun q hq => ?_⟩, ⟨C.1, C.2.1, C.2.2.1, C.2.2.2.1, C.2.2.2.2.1, C.2.2.2.2.2.1, C.2.2.2.2.2.2.1.less rfl (fun x h => (hAA x).mp h), hnd, fun i j hi hj h => hI.2 i j (hm i hi) (hm j hj) h⟩, fun k x hx => ?_, hw.2.mono (fun x h => (hAA x).mpr h)⟩
  · rcases hq with hq | hq
    · exact hB.2.2.2.2 q hq
    · rw [hq]
      exact h20
  · obtain ⟨o, ho, rfl⟩ := ws_of hx
    obtain ⟨k0, hk0⟩ := List.getElem?_of_mem (hm o (List.mem_of_getElem? ho))
    exact hw.1 k0 _ (ws_i hk0)
/-- the end of the law's text making -/
theorem ret_bg {v : Int32} {Post : Int32 → Wd → Prop} {mc ms : Nat} (hL : eL E = ids_L) (hB : Bg E E1 s.heap.size ex) (C : Cx E1 p s m args c cc nL own) (hr : meth.sig.returnType = some .boolean) (hk : meth.locks = false) (hw : Wo E1 s w H locs) (hp : Post v w) (hn : v = 0 ∨ v = 1) (hm : cells ≤ mc ∧ slots ≤ ms) (hd : decode cc pc = .ok (.ireturn, 1)) : W p l e R s m args below meth c H locs cells slots (MQ below (va_Qi Post (PW E) (AA E s.heap.size)) args s mc ms (AA E s.heap.size)) (F0 m pc ls [.int v]) := by
  have hS : va_S (AA E s.heap.size) s.heap H locs := hw.2.mono (hB.AA hL)
  have hP : va_P E.1 vwCl (wsE E w) H := by
    intro k x hx
    obtain ⟨o, ho, rfl⟩ := ws_of hx
    have hm := List.mem_of_getElem? ho
    rw [hL] at hm
    obtain ⟨k0, hk0⟩ := List.getElem?_of_mem (hB.L o hm)
    have h1 := hw.1 k0 _ (ws_i hk0)
    have hr := ids_L_N o hm
    rw [hB.1.1, hB.2.2.1 o (by omega) (by omega) (by omega), ce_cong (E := E) (congrArg (fun z => z) hB.1.2.1) hB.2.2.1 (show o ≠ 15 by omega)] at h1
    exact h1
  exact W.widen hm.1 hm.2 (W.zret C.1 C.2.1 hr (by rcases hn with rfl | rfl <;> rfl) (fun t ht hW => ⟨⟨v, w, rfl, hp, show va_P _ _ _ t.heap from ht ▸ hP⟩, hS.F ht⟩) hS.2.2 hd hk)
end LBG

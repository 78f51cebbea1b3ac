/-! the StringBuilder holds a text: letters below 128 -/
def SBt (w : Wd) (tx : List Nat) : Prop := gI w 15 1 = 0 ∧ gI w 15 3 = nI tx.length ∧ (∃ m, gI w 16 0 = nI m ∧ tx.length ≤ m ∧ 16 ≤ m ∧ m ≤ 2 * tx.length + 16) ∧ (∀ j, j < tx.length → gA w 16 j = nI (tx.getD j 0)) ∧ sb_Fit (gA w 16) ∧ ∀ c, c ∈ tx → c < 128
/-- all but the StringBuilder is as it was -/
def offS (w w' : Wd) : Prop := (∀ o k, o ≠ 15 → o ≠ 16 → gI w' o k = gI w o k) ∧ (∀ o i, o ≠ 15 → o ≠ 16 → gA w' o i = gA w o i) ∧ w'.2.2 = w.2.2
theorem offS.rf (w : Wd) : offS w w := ⟨fun _ _ _ _ => rfl, fun _ _ _ _ => rfl, rfl⟩
theorem offS.tr {a b c : Wd} (h : offS a b) (g : offS b c) : offS a c := ⟨fun o k h1 h2 => (g.1 o k h1 h2).trans (h.1 o k h1 h2), fun o k h1 h2 => (g.2.1 o k h1 h2).trans (h.2.1 o k h1 h2), g.2.2.trans h.2.2⟩
theorem offS.C {w w' : Wd} (h : offS w w') : eqC w w' := ⟨fun o k q => h.1 o k (by omega) (by omega), fun o k q => h.2.1 o k (by omega) (by omega), fun o k _ => by unfold gL; rw [h.2.2], fun o k _ => by unfold gD; rw [h.2.2]⟩
theorem getD_app (a b : List Nat) (j : Nat) : (a ++ b).getD j 0 = if j < a.length then a.getD j 0 else b.getD (j - a.length) 0 := by
  rw [List.getD_eq_getElem?_getD, List.getElem?_append]
  by_cases h : j < a.length
  · rw [if_pos h, if_pos h, List.getD_eq_getElem?_getD]
  · rw [if_neg h, if_neg h, List.getD_eq_getElem?_getD]
theorem wh_ensure {w : Wd} {q m : Nat} {Post : Wd → Prop} (h1 : gI w 15 1 = 0) (hm : gI w 16 0 = nI m) (hm16 : 16 ≤ m) (hm2 : m ≤ 1000) (hq : q ≤ m + 17) (hq2 : m < q → m ≤ 500) (hf : sb_Fit (gA w 16))
    (h : ∀ w' m', gI w' 16 0 = nI m' → q ≤ m' → m ≤ m' → (m' = m ∨ (m < q ∧ m' = 2 * m + 2)) → (∀ k, gI w' 15 k = gI w 15 k) → offS w w' → (∀ j, j < m → gA w' 16 j = gA w 16 j) → sb_Fit (gA w' 16) → Post w') : wp_J5_ensureCapacityInternal_d00df w (nI q) Post := by
  unfold wp_J5_ensureCapacityInternal_d00df
  intro y1 e1
  rw [hm, h1, nI_clamp (by omega), sb_shr0] at e1
  subst e1
  have es : (nI q - nI m).toInt = (q : Int) - m := pk_sub_toInt (by omega) (by omega)
  refine ⟨fun c => ?_, fun c => ?_⟩
  · rw [Int32.le_iff_toInt_le, es, Int32.toInt_zero] at c
    exact h w m hm (by omega) (Nat.le_refl _) (Or.inl rfl) (fun _ => rfl) (offS.rf w) (fun _ _ => rfl) hf
  · rw [Int32.le_iff_toInt_le, es, Int32.toInt_zero] at c
    have hmq : m < q := by omega
    have hm5 := hq2 hmq
    unfold wp_J5_newCapacity_0f7a4 wp_J8_newLength_cabcc
    intro y1 e1 y2 e2 y3 e3 y e
    rw [hm, nI_clamp (by omega)] at e1
    rw [h1, sb_shl0] at e2
    subst e1 e2
    rw [pk_sub (by omega)] at e3
    subst e3
    rw [h1, sb_shl0, show (2 : Int32) = nI 2 from rfl, nI_add, if_pos (nI_lt (by omega) (by omega)), nI_add, show m + (m + 2) = 2 * m + 2 by omega] at e
    subst e
    refine ⟨fun c => absurd c (nI_nle (by omega) (by omega)), fun _ => ⟨fun c => absurd c (show ¬ nI 2147483639 < nI (2 * m + 2) from nI_nlt (by omega) (by decide)), fun _ => ⟨fun c => ?_, fun _ => ?_⟩⟩⟩
    · have := (nI_eq (a := 2 * m + 2) (b := 2147483647) (by omega) (by decide)).mp c
      omega
    · dsimp only
      rw [hm, nI_clamp (by omega), h1, sb_shr0]
      refine ⟨2 * m + 2, ⟨sb_shl0 _, by omega, by omega, hf⟩, ?_⟩
      refine h _ (2 * m + 2) (by rw [gI_sF, gI_sI, if_pos ⟨rfl, rfl⟩]) (by omega) (by omega) (Or.inr ⟨hmq, rfl⟩) (fun k => by rw [gI_sF, gI_sI, if_neg (by omega)]) ⟨fun o k _ h2 => by rw [gI_sF, gI_sI, if_neg (by omega)], fun o i _ h2 => by rw [gA_sF, if_neg h2, gA_sI], rfl⟩ (fun j hj => ?_) ?_
      · rw [gA_sF, if_pos rfl]
        exact sb_cpy0 hj
      · intro j
        rw [gA_sF, if_pos rfl]
        exact sb_fitC hf sb_fit0 j
/-- the letters of a constant -/
def strN (i : Nat) : List Nat := (strBy.getD i []).map (fun b => b.toNatClampNeg)
theorem strN_ok : ∀ i, i < 18 → strLen.getD i 0 = (strN i).length ∧ (∀ j, j < (strN i).length → (strBy.getD i []).getD j 0 = nI ((strN i).getD j 0)) ∧ ∀ c, c ∈ strN i → c < 128 := by decide +kernel
theorem strN_fit {i : Nat} (hi : i < 18) : sb_Fit (fun j => (strBy.getD i []).getD j 0) := by
  intro j
  show fits .byte (.int ((strBy.getD i []).getD j 0)) = true
  rw [List.getD_eq_getElem?_getD (l := strBy.getD i [])]
  cases h : (strBy.getD i [])[j]? with
  | none => exact sb_fit0 0
  | some x => exact str_fit i hi x (List.mem_of_getElem? h)
theorem wh_apS {i : Nat} {w : Wd} {tx : List Nat} {Post : Wd → Prop} (hi : i < 18) (hl : (strN i).length ≤ 16) (hw : SBt w tx) (hq : tx.length + (strN i).length ≤ 220) (h : ∀ w', SBt w' (tx ++ strN i) → offS w w' → Post w') : wp_J4_append_15ec4 i w Post := by
  obtain ⟨s1, s2, ⟨m, s3, s4, s5, s6⟩, s7, s8, s9⟩ := hw
  obtain ⟨n1, n2, n3⟩ := strN_ok i hi
  unfold wp_J4_append_15ec4 wp_J5_append_cf1ce wp_J0_length_8abf5
  dsimp only
  rw [s2, n1, nI_add]
  refine wh_ensure s1 s3 s5 (by omega) (by omega) (fun _ => by omega) s8 (fun w2 m' g1 g2 g3 g4 g5 g6 g7 g8 => ?_)
  have t1 : gI w2 15 1 = 0 := (g5 1).trans s1
  have t3 : gI w2 15 3 = nI tx.length := (g5 3).trans s2
  have hm' : m' ≤ 1000 := by omega
  unfold wp_J5_putStringAt_47b60 wp_J5_inflateIfNeededFor_a7421 wp_J0_coder_7d493
  refine ⟨fun _ => ?_, fun c => c t1⟩
  unfold wp_J0_getBytes_840e7 wp_J0_coder_7d493
  dsimp only
  rw [t1, t3, sb_shl0, g1, nI_clamp (by omega), nI_clamp (by omega), n1]
  refine ⟨fun _ => ⟨⟨nI_pos (by omega), by omega⟩, ?_⟩, fun c => c rfl⟩
  intro y1 e1
  rw [gI_sF, t3, nI_add] at e1
  subst e1
  refine h _ ⟨?_, ?_, ⟨m', ?_, ?_, by omega, ?_⟩, fun j hj => ?_, ?_, fun c hc => ?_⟩ (g6.tr ⟨fun o k h1 _ => ?_, fun o k _ h2 => ?_, rfl⟩)
  · rw [gI_sI, if_neg (by decide), gI_sF]
    exact t1
  · rw [gI_sI, if_pos ⟨rfl, rfl⟩, List.length_append]
  · rw [gI_sI, if_neg (by decide), gI_sF]
    exact g1
  · rw [List.length_append]
    exact g2
  · rw [List.length_append]
    omega
  · rw [List.length_append] at hj
    rw [gA_sI, gA_sF, if_pos rfl, getD_app]
    by_cases q : j < tx.length
    · rw [if_pos q, pk_cpy_out (Or.inl q), g7 j (by omega)]
      exact s7 j q
    · rw [if_neg q, pk_cpy_in (by omega) (by omega), Nat.zero_add]
      exact n2 _ (by omega)
  · intro j
    rw [gA_sI, gA_sF, if_pos rfl]
    exact sb_fitC (strN_fit hi) g8 j
  · rcases List.mem_append.mp hc with q | q
    · exact s9 c q
    · exact n3 c q
  · rw [gI_sI, if_neg (by omega), gI_sF]
  · rw [gA_sI, gA_sF, if_neg h2]
theorem dig_ok : ∀ v, v < 10 → ¬ -nI v ≤ -10 ∧ - -nI v = nI v ∧ -100 < -nI v ∧ -9 ≤ -nI v ∧ digTab (nI v).toNatClampNeg = nI (48 + v) ∧ vp_nar .byte (nI (48 + v)) = nI (48 + v) ∧ fits .byte (.int (nI (48 + v))) = true := by decide +kernel
theorem wh_size1 {w : Wd} {v : Nat} {Post : Int32 → Wd → Prop} (hv : v < 10) (h : Post 1 w) : wp_J6_stringSize_0f7a4 w (nI v) Post := by
  obtain ⟨d1, d2, d3, d4, d5, d6, d7⟩ := dig_ok v hv
  unfold wp_J6_stringSize_0f7a4
  intro J16 h16
  refine ⟨fun c => absurd c (nI_pos (by omega)), fun _ y1 e1 => ?_⟩
  subst e1
  exact h16 _ _ _ _ _ ⟨fun c => absurd c (by decide), fun _ => ⟨fun c => absurd c d1, fun _ => h⟩⟩
theorem wh_getChars {w : Wd} {v n m : Nat} {Post : Int32 → Wd → Prop} (hv : v < 10) (hm : gI w 16 0 = nI m) (hm2 : m < 2000) (hn : n < m) (h : Post (nI n) (sA w 16 n (nI (48 + v)))) : wp_J6_getChars_ba4f3 w (nI v) (nI (n + 1)) Post := by
  obtain ⟨d1, d2, d3, d4, d5, d6, d7⟩ := dig_ok v hv
  unfold wp_J6_getChars_ba4f3
  intro J22 h22
  refine ⟨fun _ y1 e1 => ?_, fun c => absurd (nI_pos' (by omega)) c⟩
  subst e1
  refine h22 _ _ _ _ ⟨fun _ y2 e2 => ?_, fun c => absurd d3 c⟩
  rw [sb_m1 (by omega), Nat.add_sub_cancel] at e2
  subst e2
  rw [d2]
  refine ⟨vp_in_nI (by omega) (by omega), fun y3 e3 => ?_⟩
  rw [d5] at e3
  subst e3
  rw [hm, nI_clamp (by omega), nI_clamp (by omega), d6]
  exact ⟨vp_in_nI hn (by omega), fun _ => ⟨fun _ => h, fun c => absurd rfl c⟩, fun c => absurd d4 c⟩
theorem wh_apI {v : Nat} {w : Wd} {tx : List Nat} {Post : Wd → Prop} (hv : v < 10) (hw : SBt w tx) (hq : tx.length + 1 ≤ 220) (h : ∀ w', SBt w' (tx ++ [48 + v]) → offS w w' → Post w') : wp_J4_append_bf812 w (nI v) Post := by
  obtain ⟨s1, s2, ⟨m, s3, s4, s5, s6⟩, s7, s8, s9⟩ := hw
  obtain ⟨d1, d2, d3, d4, d5, d6, d7⟩ := dig_ok v hv
  unfold wp_J4_append_bf812 wp_J5_append_c97b9
  intro y1 e1
  refine wh_size1 hv ?_
  intro y2 e2
  rw [e1, s2, nI_1] at e2
  subst e2
  refine wh_ensure s1 s3 s5 (by omega) (by omega) (fun _ => by omega) s8 (fun w2 m' g1 g2 g3 g4 g5 g6 g7 g8 => ?_)
  have t1 : gI w2 15 1 = 0 := (g5 1).trans s1
  have hm' : m' ≤ 1000 := by omega
  unfold wp_J5_isLatin1_aae02
  refine ⟨fun _ => ⟨fun c => absurd c (by decide), fun _ => ?_⟩, fun c => absurd t1 c⟩
  refine wh_getChars hv g1 (by omega) (by omega) ?_
  refine h _ ⟨?_, ?_, ⟨m', ?_, ?_, by omega, ?_⟩, fun j hj => ?_, ?_, fun c hc => ?_⟩ (g6.tr ⟨fun o k h1 _ => ?_, fun o k _ h2 => ?_, rfl⟩)
  · rw [gI_sI, if_neg (by decide), gI_sA]
    exact t1
  · rw [gI_sI, if_pos ⟨rfl, rfl⟩, List.length_append]
    rfl
  · rw [gI_sI, if_neg (by decide), gI_sA]
    exact g1
  · rw [List.length_append]
    exact g2
  · rw [List.length_append]
    show m' ≤ 2 * (tx.length + 1) + 16
    omega
  · rw [List.length_append] at hj
    have hj : j < tx.length + 1 := hj
    rw [gA_sI, gA_sA, getD_app]
    by_cases q : j < tx.length
    · rw [if_pos q, if_neg (by omega), g7 j (by omega)]
      exact s7 j q
    · have : j = tx.length := by omega
      subst this
      rw [if_neg q, if_pos ⟨rfl, rfl⟩, Nat.sub_self]
      rfl
  · intro j
    rw [gA_sI, gA_sA]
    by_cases q : (16 : Nat) = 16 ∧ j = tx.length
    · rw [if_pos q]
      exact d7
    · rw [if_neg q]
      exact g8 j
  · rcases List.mem_append.mp hc with q | q
    · exact s9 c q
    · simp at q
      omega
  · rw [gI_sI, if_neg (by omega), gI_sA]
  · rw [gA_sI, gA_sA, if_neg (by omega)]
theorem ch_ok : ∀ c, c < 128 → nI c &&& 255 = nI c := by decide +kernel
theorem wh_charAt {j : Nat} {w : Wd} {tx : List Nat} {Post : Int32 → Wd → Prop} (hw : SBt w tx) (hq : tx.length ≤ 300) (hj : j < tx.length) (h : Post (nI (tx.getD j 0)) w) : wp_J4_charAt_5068e w (nI j) Post := by
  obtain ⟨s1, s2, ⟨m, s3, s4, s5, s6⟩, s7, s8, s9⟩ := hw
  have hc : tx.getD j 0 < 128 := by
    rw [List.getD_eq_getElem?_getD, List.getElem?_eq_getElem hj]
    exact s9 _ (List.getElem_mem hj)
  unfold wp_J4_charAt_5068e wp_J5_charAt_5068e
  intro y1 e1 y2 e2
  rw [s1] at e1
  subst e1
  rw [sb_shr0, s2, s3, nI_clamp (by omega), if_neg (nI_nlt s4 (by omega))] at e2
  refine ⟨⟨tx.length, e2, by omega, vp_in_nI hj (by omega)⟩, fun _ => ?_, fun c => absurd rfl c⟩
  rw [s3, nI_clamp (by omega), nI_clamp (by omega), s7 j hj, ch_ok _ hc]
  exact ⟨vp_in_nI (by omega) (by omega), (pk_charN (by omega)).1, h⟩
theorem wh_tlen {w : Wd} {tx : List Nat} {Post : Int32 → Wd → Prop} (hw : SBt w tx) (h : Post (nI tx.length) w) : wp_J4_length_8abf5 w Post := by
  unfold wp_J4_length_8abf5 wp_J5_length_8abf5
  rw [hw.2.1]
  exact h

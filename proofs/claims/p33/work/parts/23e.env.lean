/-! what the Statement gives of the start, told of an environment -/
def strTm (i : Nat) : Term := .string (strK.getD i ("", 0, 0)).1 (strK.getD i ("", 0, 0)).2.1
theorem ra_arr {s : State} {ty : FieldType} {args : Array Value} (h : (Cond.arrayClass ty).before args s = true) (hp : ∀ cA, s.vm.findClass ("[" ++ ty.toString) = some cA → va_RA s cA ty) : ∃ cA : ClassId, ArrOfT s cA ty ∧ va_RA s cA ty := by
  obtain ⟨c, k, comp, h1, h2, h3⟩ := Cond.arrayClass_spec h
  exact ⟨c, fun n z => ⟨fun k h => (by cases h), k, h2, comp, h3⟩, hp c h1⟩
theorem ra_over {s : State} {C : String} {args : Array Value} (h : (Cond.arrayOver (.object C)).before args s = true) : ∃ cA : ClassId, ArrOfT s cA (.object C) ∧ va_RA s cA (.object C) := by
  obtain ⟨comp, c, k, f4, f1, f2, f3, f5⟩ := Cond.arrayOver_spec h
  exact ⟨c, fun n z => ⟨(fun k h => by cases h), k, f2, comp, f3⟩, k, comp, f2, f3, f4, f5⟩
/-- the Statement tells the strings in another order -/
def strOrd : List Nat := [6, 7, 8, 9, 10, 11, 12, 13, 14, 15, 0, 1, 2, 3, 4, 5, 16, 17]
def strPos : List Nat := [10, 11, 12, 13, 14, 15, 0, 1, 2, 3, 4, 5, 6, 7, 8, 9, 16, 17]
def sO (k : Nat) : Nat := strOrd.getD k 0
def strSeg (k : Nat) : List Cond := [.exactly (strTm (sO k)) "java/lang/String", .eq (.field (strTm (sO k)) "java/lang/String" "coder" "B") (.int 0), .arrayOf (.field (strTm (sO k)) "java/lang/String" "value" "[B") .byte, .eq (.length (.field (strTm (sO k)) "java/lang/String" "value" "[B")) (.int (Int32.ofNat (strLen.getD (sO k) 0)))] ++ ((List.range (strLen.getD (sO k) 0)).map (fun j => Cond.eq (.elem (.field (strTm (sO k)) "java/lang/String" "value" "[B") (.int (Int32.ofNat j))) (.int ((strBy.getD (sO k) []).getD j 0))) ++ (List.range k).map (fun j => Cond.not (.eq (strTm (sO j)) (strTm (sO k)))))
set_option maxRecDepth 100000 in
theorem strSegs : ((flatC (Jvm.Cond.and given_1 narrow_1)).drop 299).take 414 = (List.range 18).flatMap strSeg := by decide +kernel
theorem strSeg_in {k : Nat} (hk : k < 18) {w : Cond} (h : w ∈ strSeg k) : w ∈ flatC (Jvm.Cond.and given_1 narrow_1) := by
  have h1 : w ∈ (List.range 18).flatMap strSeg := List.mem_flatMap.mpr ⟨k, List.mem_range.mpr hk, h⟩
  rw [← strSegs] at h1
  exact List.mem_of_mem_drop (List.mem_of_mem_take h1)
theorem ord_ok : ∀ i, i < 18 → ∃ k, k < 18 ∧ sO k = i := by
  have h : ∀ i, i < 18 → strPos.getD i 0 < 18 ∧ sO (strPos.getD i 0) = i := by decide +kernel
  exact fun i hi => ⟨_, h i hi⟩
set_option maxRecDepth 100000 in
theorem sbSegs : ((flatC (Jvm.Cond.and given_1 narrow_1)).drop 9).take 39 = (List.range 39).map (fun j => Cond.eq (.elem (.static "CoinLadders" "SETS_BELOW" "[I") (.int (Int32.ofNat j))) (.int (sbTab j))) := by decide +kernel
theorem sbSeg_in {j : Nat} (hj : j < 39) : Cond.eq (.elem (.static "CoinLadders" "SETS_BELOW" "[I") (.int (Int32.ofNat j))) (.int (sbTab j)) ∈ flatC (Jvm.Cond.and given_1 narrow_1) := by
  have h1 : Cond.eq (.elem (.static "CoinLadders" "SETS_BELOW" "[I") (.int (Int32.ofNat j))) (.int (sbTab j)) ∈ (List.range 39).map (fun j => Cond.eq (.elem (.static "CoinLadders" "SETS_BELOW" "[I") (.int (Int32.ofNat j))) (.int (sbTab j))) := List.mem_map.mpr ⟨j, List.mem_range.mpr hj, rfl⟩
  rw [← sbSegs] at h1
  exact List.mem_of_mem_drop (List.mem_of_mem_take h1)
set_option maxRecDepth 100000 in
theorem dgSegs : ((flatC (Jvm.Cond.and given_1 narrow_1)).drop 56).take 100 = (List.range 100).map (fun j => Cond.eq (.elem (.static "java/lang/Integer" "DigitOnes" "[B") (.int (Int32.ofNat j))) (.int (digTab j))) := by decide +kernel
theorem dgSeg_in {j : Nat} (hj : j < 100) : Cond.eq (.elem (.static "java/lang/Integer" "DigitOnes" "[B") (.int (Int32.ofNat j))) (.int (digTab j)) ∈ flatC (Jvm.Cond.and given_1 narrow_1) := by
  have h1 : Cond.eq (.elem (.static "java/lang/Integer" "DigitOnes" "[B") (.int (Int32.ofNat j))) (.int (digTab j)) ∈ (List.range 100).map (fun j => Cond.eq (.elem (.static "java/lang/Integer" "DigitOnes" "[B") (.int (Int32.ofNat j))) (.int (digTab j))) := List.mem_map.mpr ⟨j, List.mem_range.mpr hj, rfl⟩
  rw [← dgSegs] at h1
  exact List.mem_of_mem_drop (List.mem_of_mem_take h1)
theorem hts2_of {s : State} {args : Array Value} (hts : ∀ w ∈ lw_tbl, w.before args s = true) : ∀ w ∈ lw_tb2, w.before args s = true := by
  intro w hw
  rcases List.mem_append.mp hw with h | h
  · simp only [sbSel, List.mem_cons, List.not_mem_nil, or_false] at h
    rcases h with rfl | rfl | rfl | rfl
    · exact sel_priv (z := yJ5_isLatin1_aae02) rfl (by decide) (hts _ (by decide +kernel)) (hts _ (by decide +kernel)) (hts _ (by decide +kernel))
    · exact sel_priv (z := yJ5_isLatin1_aae02) rfl (by decide) (hts _ (by decide +kernel)) (hts _ (by decide +kernel)) (hts _ (by decide +kernel))
    · exact sel_priv (z := yJ5_isLatin1_aae02) rfl (by decide) (hts _ (by decide +kernel)) (hts _ (by decide +kernel)) (hts _ (by decide +kernel))
    · exact sel_priv (z := yJ5_isLatin1_aae02) rfl (by decide) (hts _ (by decide +kernel)) (hts _ (by decide +kernel)) (hts _ (by decide +kernel))
  · exact hts w h
set_option maxRecDepth 100000 in
theorem env_of {s : State} {b : Nat} (hts : ∀ w ∈ lw_tbl, w.before #[Value.ref b] s = true) (hgv : (Jvm.Cond.and given_1 narrow_1).before #[Value.ref b] s = true) (A : Nat → Prop) (hA : ∀ a : Nat, a < s.heap.size → ¬ A a) {N : Nat} {X : Nat → Int32} (hX : va_X b N X s s.heap) : ∃ (D : va_G) (cs : Nat → ClassId) (T : Nat → Nat), T 300 = b ∧ ∀ (u : Nat → Nat) (L : List Nat) (J : Nat → Prop), va_K D vwCl (tysE (D, cs, u, T, L, J, N, X)) s ∧ EE (D, cs, u, T, L, J, N, X) A s s.heap := by
  have hs := flat_of_before _ hgv
  have hts2 := hts2_of hts
  have hB : ∀ w ∈ BIG, w.before #[Value.ref b] s = true := fun w h => hts2 w (big_lw h)
  obtain ⟨d0, i0, k0⟩ := u_known hB inB0 (hB _ K_a_X0)
  obtain ⟨d1, i1, k1⟩ := u_known hB inB1 (hB _ K_a_X1)
  obtain ⟨d2, i2, k2⟩ := u_known hB inB2 (hB _ K_a_X2)
  obtain ⟨d3, i3, k3⟩ := u_known hB inB3 (hB _ K_a_X3)
  obtain ⟨d4, i4, k4⟩ := u_known hB inB4 (hB _ K_a_X4)
  obtain ⟨d5, i5, k5⟩ := u_known hB inB5 (hB _ K_a_X5)
  obtain ⟨d6, i6, k6⟩ := u_known hB inB6 (hB _ K_a_X6)
  obtain ⟨d7, i7, k7⟩ := u_known hB inB7 (hB _ K_a_X7)
  obtain ⟨d8, i8, k8⟩ := u_known hB inB8 (hB _ K_a_X8)
  obtain ⟨d9, i9, k9⟩ := u_known hB inB9 (hB _ K_a_J4)
  obtain ⟨c0, e0, f0⟩ := ra_arr (hB _ K_r_FieldType_int) (fun _ h => h)
  obtain ⟨c1, e1, f1⟩ := ra_arr (hB _ K_r_FieldType_byte) (fun _ h => h)
  obtain ⟨c2, e2, f2⟩ := ra_arr (hB _ K_r_FieldType_boolean) (fun _ h => h)
  have o5 : (Cond.arrayOver (.object "CoinLadders$LadderValues")).before #[Value.ref b] s = true := hts _ (by decide +kernel)
  have o6 : (Cond.arrayOver (.object "CoinLadders$State")).before #[Value.ref b] s = true := hts _ (by decide +kernel)
  obtain ⟨c5, e5, f5⟩ := ra_over o5
  obtain ⟨c6, e6, f6⟩ := ra_over o6
  obtain ⟨t0, ht0, hT0⟩ := va_Tof (f := fun j => .int (sbTab j)) (tm := .static "CoinLadders" "SETS_BELOW" "[I") (ty := .int) (N := 39) (A := A) (by decide) (hs _ (by decide +kernel)) (va_eqt (hs _ (by decide +kernel))) (fun j hj => va_eqt (hs _ (sbSeg_in hj))) hA
  obtain ⟨t1, ht1, hT1⟩ := va_Tof (f := fun j => .int (digTab j)) (tm := .static "java/lang/Integer" "DigitOnes" "[B") (ty := .byte) (N := 100) (A := A) (by decide) (hs _ (by decide +kernel)) (va_eqt (hs _ (by decide +kernel))) (fun j hj => va_eqt (hs _ (dgSeg_in hj))) hA
  obtain ⟨adK, adV, hS, hev⟩ := vk_Sof (args := #[Value.ref b]) (s := s) (N := 18) (tm := strTm) (len := strLen) (byt := strBy) (A := A) (by decide)
    (fun i hi => by obtain ⟨k, hk, rfl⟩ := ord_ok i hi; exact hs _ (strSeg_in hk (by simp [strSeg])))
    (fun i hi => by obtain ⟨k, hk, rfl⟩ := ord_ok i hi; exact hs _ (strSeg_in hk (by simp [strSeg])))
    (fun i hi => by obtain ⟨k, hk, rfl⟩ := ord_ok i hi; exact hs _ (strSeg_in hk (by simp [strSeg])))
    (fun i hi => by obtain ⟨k, hk, rfl⟩ := ord_ok i hi; exact hs _ (strSeg_in hk (by simp [strSeg])))
    (fun i hi j hj => by obtain ⟨k, hk, rfl⟩ := ord_ok i hi; exact hs _ (strSeg_in hk (List.mem_append_right _ (List.mem_append_left _ (List.mem_map.mpr ⟨j, List.mem_range.mpr hj, rfl⟩)))))
    (fun i j hi hj hne => by
      obtain ⟨k, hk, rfl⟩ := ord_ok i hi
      obtain ⟨k2, hk2, rfl⟩ := ord_ok j hj
      rcases Nat.lt_or_gt_of_ne (show k ≠ k2 from fun e => hne (by rw [e])) with h | h
      · exact Or.inl (hs _ (strSeg_in hk2 (List.mem_append_right _ (List.mem_append_right _ (List.mem_map.mpr ⟨k, List.mem_range.mpr h, rfl⟩)))))
      · exact Or.inr (hs _ (strSeg_in hk (List.mem_append_right _ (List.mem_append_right _ (List.mem_map.mpr ⟨k2, List.mem_range.mpr h, rfl⟩)))))) hA
  have eK : ∀ i, i < 18 → (fun n => if n = 0 then t0 else if n = 300 then b else if n = 301 then t1 else if n < 101 then adK (n - 1) else adV (n - 101)) (1 + i) = adK i := by
    intro i hi
    show (if 1 + i = 0 then t0 else if 1 + i = 300 then b else if 1 + i = 301 then t1 else if 1 + i < 101 then adK (1 + i - 1) else adV (1 + i - 101)) = adK i
    rw [if_neg (by omega), if_neg (by omega), if_neg (by omega), if_pos (by omega), show 1 + i - 1 = i by omega]
  have eV : ∀ i, i < 18 → (fun n => if n = 0 then t0 else if n = 300 then b else if n = 301 then t1 else if n < 101 then adK (n - 1) else adV (n - 101)) (101 + i) = adV i := by
    intro i hi
    show (if 101 + i = 0 then t0 else if 101 + i = 300 then b else if 101 + i = 301 then t1 else if 101 + i < 101 then adK (101 + i - 1) else adV (101 + i - 101)) = adV i
    rw [if_neg (by omega), if_neg (by omega), if_neg (by omega), if_neg (by omega), show 101 + i - 101 = i by omega]
  refine ⟨(fun c => [d0, d1, d2, d3, d4, d5, d6, d7, d8, d9].getD c 0, fun c => [i0, i1, i2, i3, i4, i5, i6, i7, i8, i9].getD c (fun _ => 0)), fun k => [c0, c1, c2, c0, c0, c5, c6].getD k 0, fun n => if n = 0 then t0 else if n = 300 then b else if n = 301 then t1 else if n < 101 then adK (n - 1) else adV (n - 101), rfl, fun u L J => ⟨⟨fun c q hq => ?_, fun k q hk => ?_⟩, ?_⟩⟩
  · have hc : c < 10 := (List.getElem?_eq_some_iff.mp hq).1
    rcases (show c = 0 ∨ c = 1 ∨ c = 2 ∨ c = 3 ∨ c = 4 ∨ c = 5 ∨ c = 6 ∨ c = 7 ∨ c = 8 ∨ c = 9 by omega) with rfl | rfl | rfl | rfl | rfl | rfl | rfl | rfl | rfl | rfl <;> cases hq <;> assumption
  · have hc : k < 7 := (List.getElem?_eq_some_iff.mp hk).1
    rcases (show k = 0 ∨ k = 1 ∨ k = 2 ∨ k = 3 ∨ k = 4 ∨ k = 5 ∨ k = 6 by omega) with rfl | rfl | rfl | rfl | rfl | rfl | rfl <;> cases hk
    · exact ⟨e0, f0⟩
    · exact ⟨e1, f1⟩
    · exact ⟨e2, f2⟩
    · exact ⟨e0, f0⟩
    · exact ⟨e0, f0⟩
    · exact ⟨e5, f5⟩
    · exact ⟨e6, f6⟩
  · refine ⟨fun x hx => ?_, ?_, hT0, ?_, ?_, ?_, ?_, ⟨fun i hi => ?_, fun i j hi hj h => ?_⟩, fun q hq => ?_, ?_, va_AO.of o5, va_AO.of o6, ?_, hT1, hA _ (vaX_lt hX), hX⟩
    · obtain ⟨h1, h2⟩ := (by decide +kernel : ∀ x ∈ nestW, x.onTables = true ∧ x ∈ lw_tbl) x hx
      exact va_Nw.of h1 (hts x h2)
    · exact va_Zref (hts _ (by decide +kernel)) (hB _ K_n_X8) ht0 hA
    · exact vx_Zqof (hts _ (by decide +kernel)) (hB _ K_n_o_Throwable) (hs _ (by decide +kernel)) hA
    · exact vx_Zqof (hts _ (by decide +kernel)) (hB _ K_n_o_Throwable) (hs _ (by decide +kernel)) hA
    · exact va_Zof (hts _ (by decide +kernel)) (hB _ K_n_J0) (va_eqi (hs _ (by decide +kernel))) hA
    · exact va_Zqof (hts _ (by decide +kernel)) (hB _ K_n_J3) (hs _ (by decide +kernel)) hA
    · have h := hS.1 i hi
      have h1 := eK i hi
      have h2 := eV i hi
      show va_O "java/lang/String" ((fun n => if n = 0 then t0 else if n = 300 then b else if n = 301 then t1 else if n < 101 then adK (n - 1) else adV (n - 101)) (1 + i)) A s s.heap ∧ va_OF "java/lang/String" "coder" "B" (.int 0) ((fun n => if n = 0 then t0 else if n = 300 then b else if n = 301 then t1 else if n < 101 then adK (n - 1) else adV (n - 101)) (1 + i)) A s s.heap ∧ va_OF "java/lang/String" "value" "[B" (.ref ((fun n => if n = 0 then t0 else if n = 300 then b else if n = 301 then t1 else if n < 101 then adK (n - 1) else adV (n - 101)) (101 + i))) ((fun n => if n = 0 then t0 else if n = 300 then b else if n = 301 then t1 else if n < 101 then adK (n - 1) else adV (n - 101)) (1 + i)) A s s.heap ∧ va_T .byte ((fun n => if n = 0 then t0 else if n = 300 then b else if n = 301 then t1 else if n < 101 then adK (n - 1) else adV (n - 101)) (101 + i)) (strLen.getD i 0) (fun j => .int ((strBy.getD i []).getD j 0)) A s s.heap
      rw [h1, h2]
      exact h
    · exact hS.2 i j hi hj ((eK i hi).symm.trans (h.trans (eK j hj)))
    · obtain ⟨h1, h2, h3⟩ := (by decide +kernel : ∀ q ∈ strK, Cond.stringRef q.1 q.2.1 (strTx.getD q.2.2 "") ∈ lw_tbl ∧ q.2.2 < 18 ∧ (Term.string q.1 q.2.1 = strTm q.2.2 ∨ Cond.eq (strTm q.2.2) (Term.string q.1 q.2.1) ∈ flatC (Jvm.Cond.and given_1 narrow_1))) q hq
      refine vk_R.of (A := #[Value.ref b]) (hts _ h1) ?_
      show (Term.string q.1 q.2.1).eval #[Value.ref b] s none [] s = some (.ref ((fun n => if n = 0 then t0 else if n = 300 then b else if n = 301 then t1 else if n < 101 then adK (n - 1) else adV (n - 101)) (1 + q.2.2)))
      rw [eK _ h2]
      rcases h3 with h3 | h3
      · rw [h3]
        exact hev _ h2
      · exact va_eqR (hs _ h3) (hev _ h2)
    · exact trivial
    · exact va_Zref (hts _ (by decide +kernel)) (hB _ K_n_J6) ht1 hA
theorem start_C {p : Program} {s : State} {m : MethodId} {meth : Method} {c : Code} {b L : Nat} {xs : Nat → Int32} (C0 : lw_At p s m meth c b L xs) : ∃ E0 : En, Cc E0 (fun q => s.heap.size ≤ q) p s m #[Value.ref b] c code 7 "CoinLaddersLaw" ∧ eT E0 300 = b ∧ eN E0 = L ∧ eX E0 = xs := by
  obtain ⟨h1, h2, h3, h4, h5, h6, h7, h8, h9, h10⟩ := C0
  obtain ⟨D, cs, T, hb, h⟩ := env_of h6 h10 (fun q => s.heap.size ≤ q) (fun a ha => Nat.not_le.mpr ha) h7
  obtain ⟨hK, hE⟩ := h (fun _ => 0) [] (fun _ => False)
  exact ⟨(D, cs, fun _ => 0, T, [], fun _ => False, L, xs), ⟨h1, h2, h4, h5, fun w hw => hts2_of h6 w (big_lw hw), hK, hE, fun q h => h⟩, hb, rfl, rfl⟩

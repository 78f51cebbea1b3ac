/-! Math.max, Math.min, System.arraycopy, the table SETS_BELOW; switches -/
/-- n places of array o0 from sp on, copied into array o1 from dp on -/
def cpA (w : Wd) (o0 o1 sp dp n : Nat) : Wd := sF w o1 (va_cpy (gA w o0) (gA w o1) sp dp n)
section PRIM
variable {E : En} {p : Program} {l : Launch} {e : Env} {R : Room} {s : State} {m : MethodId} {args : Array Value} {below : List Frame} {meth : Method} {c : Code} {H : Heap} {locs : List Loc} {cells slots : Nat} {Q : State → Prop} {cc : ByteArray} {nL pc : Nat} {own : String} {ls : Array Slot} {rest : List Value} {w : Wd}
theorem r_max (C : Cx E p s m args c cc nL own) (hsz : ls.size = nL) {index : Nat} (g1 : Cond.methodLink own index Lib.Math.max.name ∈ BIG) (hR : 1 ≤ R.frames ∧ (rest.map fun v => v.category).sum + 13 ≤ R.locals) (hf : cells ≤ R.cells ∧ slots ≤ R.slots) {x y : Int32} (hd : decode cc pc = .ok (.invokestatic index, 3))
    (kk : W p l e R s m args below meth c H locs cells slots Q (F0 m (pc + 3) ls (.int (if x < y then y else x) :: rest))) : W p l e R s m args below meth c H locs cells slots Q (F0 m pc ls (.int y :: .int x :: rest)) :=
  va_mmax C.1 C.2.1 (C.2.2.1.trans hsz.symm) C.2.2.2.1 (C.2.2.2.2.1 _ g1) (C.2.2.2.2.1 _ K_s_J9_max_7cf53) (C.2.2.2.2.1 _ K_n_J9) (C.2.2.2.2.1 _ K_c_J9_max_7cf53) hR.1 hR.2 hf.1 hf.2 hd kk
theorem r_min (C : Cx E p s m args c cc nL own) (hsz : ls.size = nL) {index : Nat} (g1 : Cond.methodLink own index Lib.Math.min.name ∈ BIG) (hR : 1 ≤ R.frames ∧ (rest.map fun v => v.category).sum + 13 ≤ R.locals) (hf : cells ≤ R.cells ∧ slots ≤ R.slots) {x y : Int32} (hd : decode cc pc = .ok (.invokestatic index, 3))
    (kk : W p l e R s m args below meth c H locs cells slots Q (F0 m (pc + 3) ls (.int (if y < x then y else x) :: rest))) : W p l e R s m args below meth c H locs cells slots Q (F0 m pc ls (.int y :: .int x :: rest)) :=
  va_mmin C.1 C.2.1 (C.2.2.1.trans hsz.symm) C.2.2.2.1 (C.2.2.2.2.1 _ g1) (C.2.2.2.2.1 _ K_s_J9_min_7cf53) (C.2.2.2.2.1 _ K_n_J9) (C.2.2.2.2.1 _ K_c_J9_min_7cf53) hR.1 hR.2 hf.1 hf.2 hd kk
theorem r_copy (C : Cx E p s m args c cc nL own) (hw : Wo E s w H locs) (hsz : ls.size = nL) (o0 o1 n0 n1 : Nat) {index : Nat} (g1 : Cond.methodLink own index arraycopyName ∈ BIG) (ho0 : o0 ∈ eL E) (ho1 : o1 ∈ eL E) (hc0 : ce E w o0 = .inl (eC E 0, n0, .inl (w.2.1 o0))) (hc1 : ∀ w, ce E w o1 = .inl (eC E 0, n1, .inl (w.2.1 o1)))
    {sp dp n : Int32} (h1 : ¬ sp < 0) (h2 : ¬ dp < 0) (h3 : ¬ n < 0) (h4 : sp.toNatClampNeg + n.toNatClampNeg ≤ n0) (h5 : dp.toNatClampNeg + n.toNatClampNeg ≤ n1) (hR : 1 ≤ R.frames ∧ (rest.map fun v => v.category).sum + 18 ≤ R.locals) (hd : decode cc pc = .ok (.invokestatic index, 3))
    (kk : ∀ (H1 : Heap) (locs1 : List Loc), Wo E s (cpA w o0 o1 sp.toNatClampNeg dp.toNatClampNeg n.toNatClampNeg) H1 locs1 → W p l e R s m args below meth c H1 locs1 cells slots Q (F0 m (pc + 3) ls rest)) : W p l e R s m args below meth c H locs cells slots Q (F0 m pc ls (.int n :: .int dp :: .ref (eA E o1) :: .int sp :: .ref (eA E o0) :: rest)) := by
  obtain ⟨k0, hk0⟩ := List.getElem?_of_mem ho0
  obtain ⟨k1, hk1⟩ := List.getElem?_of_mem ho1
  exact va_copyi (D := E.1) (ws := wsE E w) (A := AA E s.heap.size) C.1 C.2.1 (C.2.2.1.trans hsz.symm) C.2.2.2.1 (C.2.2.2.2.1 _ g1) (C.2.2.2.2.1 _ K_x_o_System_arraycopy_42) (C.2.2.2.2.1 _ K_s_o_System_arraycopy_42) (C.2.2.2.2.1 _ K_n_J10)
    C.2.2.2.2.2.1 hw.1 (ws_D C.2.2.2.2.2.2.2) hw.2 k0 k1 0 0 (by rw [ws_i hk0, hc0]) (by rw [ws_i hk1, hc1]) rfl rfl rfl h1 h2 h3 h4 h5 (fun _ _ => rfl) hR.1 hR.2 hd
    (fun H1 locs1 hP hD hS => kk H1 locs1 ⟨by unfold cpA; rw [← ws_sF C.2.2.2.2.2.2.2 hk1 (by rw [hc1, A_self])]; exact hP, hS⟩)
theorem r_gsb (C : Cx E p s m args c cc nL "CoinLadders$Positions") (hw : Wo E s w H locs) (hd : decode cc pc = .ok (.getstatic 18, 3))
    (kk : W p l e R s m args below meth c H locs cells slots Q (F0 m (pc + 3) ls (.ref (eT E 0) :: rest))) : W p l e R s m args below meth c H locs cells slots Q (F0 m pc ls rest) :=
  va_getsN C.1 C.2.1 C.2.2.2.2.2.2.1.2.1 hw.2 C.2.2.2.1 (va_Nw.use rfl (C.2.2.2.2.2.2.1.1 (.fieldLinkNest "CoinLadders$Positions" 18 "CoinLadders" "SETS_BELOW" "[I" "CoinLadders") (by decide +kernel))) (fun _ h => h) hd kk
theorem r_tsb (C : Cx E p s m args c cc nL own) (hw : Wo E s w H locs) {i : Int32} (hi : vp_in i 39) (hd : decode cc pc = .ok (.iaload, 1))
    (kk : W p l e R s m args below meth c H locs cells slots Q (F0 m (pc + 1) ls (.int (sbTab i.toNatClampNeg) :: rest))) : W p l e R s m args below meth c H locs cells slots Q (F0 m pc ls (.int i :: .ref (eT E 0) :: rest)) :=
  va_ti C.1 C.2.1 C.2.2.2.2.2.2.1.2.2.1 hw.2 hi rfl hd kk
end PRIM
theorem sw_in {x : Int32} {n : Nat} (e : x = nI n) (hn : n < 2 ^ 31) {hi : Int} (h : (n : Int) ≤ hi) : ¬ x.toInt < 0 ∧ ¬ hi < x.toInt ∧ (x.toInt - 0).toNat = n := by
  rw [e, nI_toInt hn]
  omega
theorem sw_out {x : Int32} {n : Nat} (hn : n < 2 ^ 31) (h : ∀ j, j < n → ¬ x = nI j) {hi : Int} (hh : hi = (n : Int) - 1) : x.toInt < 0 ∨ hi < x.toInt := by
  subst hh
  by_cases h0 : x.toInt < 0
  · exact Or.inl h0
  · by_cases h1 : (n : Int) - 1 < x.toInt
    · exact Or.inr h1
    · obtain ⟨j, hj⟩ : ∃ j : Nat, x.toInt = (j : Int) := ⟨x.toInt.toNat, by omega⟩
      refine absurd ?_ (h j (by omega))
      apply Int32.toInt_inj.mp
      rw [hj, nI_toInt (by omega)]
theorem vp_lit {i : Int32} {n : Nat} (h : decide (¬ (i < 0 ∨ n ≤ i.toNatClampNeg)) = true) : vp_in i n := by
  unfold vp_in
  exact of_decide_eq_true h

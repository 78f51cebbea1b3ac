/-! the law's game is read as it is made -/
theorem pick_at {N : Nat} {X : Nat → Int32} {w : Wd} {a b : Int32} {Post : Int32 → Wd → Prop} (k n : Nat) (ea : a = nI k) (eb : b = nI n) (hk : k < 1000) (h0 : 0 < n) (hn : n < 1000) (h : pkX N X k n < n → Post (nI (pkX N X k n)) w) : wp_L_pick N X w a b Post := ⟨k, n, ⟨ea, eb, hk, h0, hn⟩, h (pkX_lt N X k h0)⟩
theorem SBt.cast {w : Wd} {tx tx' : List Nat} (h : SBt w tx) (e : tx = tx') : SBt w tx' := e ▸ h
theorem SBt.of {w w' : Wd} {tx : List Nat} (h : SBt w tx) (h1 : ∀ k, gI w' 15 k = gI w 15 k) (h2 : gI w' 16 0 = gI w 16 0) (h3 : gA w' 16 = gA w 16) : SBt w' tx := by
  obtain ⟨s1, s2, s3, s4, s5, s6⟩ := h
  refine ⟨(h1 1).trans s1, (h1 3).trans s2, ?_, ?_, ?_, s6⟩
  · rw [h2]
    exact s3
  · rw [h3]
    exact s4
  · rw [h3]
    exact s5
theorem SBt.mxC {w : Wd} (w1 : Wd) {tx : List Nat} (h : SBt w tx) : SBt (mx pC w w1) tx :=
  h.of (fun k => by rw [gI_mx, if_neg (pC_n (by decide) (by decide))]) (by rw [gI_mx, if_neg (pC_n (by decide) (by decide))]) (funext fun i => by rw [gA_mx, if_neg (pC_n (by decide) (by decide))])
theorem eqC_sA20 (w : Wd) (i : Nat) (x : Int32) : eqC w (sA w 20 i x) := ⟨fun _ _ _ => rfl, fun o k q => by rw [gA_sA, if_neg (by omega)], fun _ _ _ => rfl, fun _ _ _ => rfl⟩
theorem eqC_sF20 (w : Wd) (f : Nat → Int32) : eqC w (sF w 20 f) := ⟨fun _ _ _ => rfl, fun o k q => by rw [gA_sF, if_neg (by omega)], fun _ _ _ => rfl, fun _ _ _ => rfl⟩
theorem pS_n {o : Nat} (h : o < 15 ∨ 27 ≤ o) : ¬ pS o = true := by
  unfold pS
  rw [Bool.or_eq_true, decide_eq_true_eq, decide_eq_true_eq]
  omega
theorem eqC_mxS (w w1 : Wd) : eqC w (mx pS w w1) := ⟨fun o k h => by rw [gI_mx, if_neg (pS_n h)], fun o k h => by rw [gA_mx, if_neg (pS_n h)], fun o k h => by rw [gL_mx, if_neg (pS_n h)], fun o k h => by rw [gD_mx, if_neg (pS_n h)]⟩
theorem SBt_new (w : Wd) {w2 : Wd} (h : post_SB w2) : SBt (mx pS w w2) [] := by
  obtain ⟨p1, p2, p3, p4⟩ := h
  refine ⟨by rw [gI_mx, if_pos (by decide)]; exact p1, by rw [gI_mx, if_pos (by decide)]; exact p2, ⟨16, by rw [gI_mx, if_pos (by decide)]; exact p3, Nat.zero_le _, Nat.le_refl _, by decide⟩, fun j hj => absurd hj (Nat.not_lt_zero j), fun j => ?_, fun c hc => absurd hc (List.not_mem_nil)⟩
  rw [gA_mx, if_pos (by decide), p4 j]
  exact sb_fit0 j
def csT (coin top n : Nat) : List Nat := (List.range n).map (fun i => (coin + i - 1) % top + 1)
theorem csT_len (coin top n : Nat) : (csT coin top n).length = n := by
  unfold csT
  rw [List.length_map, List.length_range]
theorem csT_succ (coin top n : Nat) : csT coin top (n + 1) = csT coin top n ++ [(coin + n - 1) % top + 1] := by
  unfold csT
  rw [List.range_succ, List.map_append]
  rfl
theorem csT_b : ∀ top, top < 7 → ∀ coin, coin < 9 → ∀ n, n < 4 → coin + 1 ≤ top + 3 → (decide (csT (coin + 1) (top + 3) n).Nodup && (csT (coin + 1) (top + 3) n).all (fun c => decide (1 ≤ c ∧ c ≤ top + 3))) = true := by decide +kernel
theorem csT_ok {top coin n : Nat} (h1 : top < 10) (h2 : 3 ≤ top) (h3 : coin ≤ top) (h4 : 1 ≤ coin) (h5 : n < 4) : (csT coin top n).Nodup ∧ ∀ c, c ∈ csT coin top n → 1 ≤ c ∧ c ≤ top := by
  have h := csT_b (top - 3) (by omega) (coin - 1) (by omega) n h5 (by omega)
  rw [show top - 3 + 3 = top by omega, show coin - 1 + 1 = coin by omega, Bool.and_eq_true, decide_eq_true_eq, List.all_eq_true] at h
  exact ⟨h.1, fun c hc => of_decide_eq_true (h.2 c hc)⟩
theorem nI_gt {a b : Nat} (h : b < a) (ha : a < 2 ^ 31) : ¬ nI a ≤ nI b := fun c => by
  have := (nI_leI ha (by omega)).mp c
  omega
theorem len_9 : (strN 9).length = 7 := by decide
theorem len_10 : (strN 10).length = 1 := by decide
theorem len_11 : (strN 11).length = 7 := by decide
theorem len_12 : (strN 12).length = 1 := by decide
theorem len_13 : (strN 13).length = 7 := by decide
theorem len_14 : (strN 14).length = 7 := by decide
theorem len_15 : (strN 15).length = 7 := by decide
theorem str_9 : strN 9 = strN 1 ++ [32] := by decide
theorem str_10 : strN 10 = [32] := by decide
theorem str_11 : strN 11 = 32 :: (strN 2 ++ [32]) := by decide
theorem str_12 : strN 12 = [59] := by decide
theorem str_13 : strN 13 = strN 3 ++ [32, 48, 32] := by decide
theorem str_14 : strN 14 = strN 4 ++ [32] := by decide
theorem str_15 : strN 15 = 59 :: (strN 5 ++ [32]) := by decide
theorem numsT_app (a b : List Nat) : numsT (a ++ b) = numsT a ++ numsT b := List.flatMap_append
theorem numsT_c (c : Nat) (cs : List Nat) : numsT (c :: cs) = 32 :: (48 + c) :: numsT cs := rfl
theorem numsT_0 : numsT [] = [] := rfl
theorem tx_lad (tx : List Nat) (coin top : Nat) : tx ++ strN 9 ++ [48 + top] = tx ++ (strN 1 ++ (numsT [top] ++ numsT (csT coin top 0))) := by
  rw [str_9, numsT_c, numsT_0, show csT coin top 0 = [] from rfl, numsT_0]
  simp only [List.append_assoc, List.cons_append, List.nil_append, List.append_nil]
theorem tx_coin (tx : List Nat) (coin top n : Nat) : tx ++ (strN 1 ++ (numsT [top] ++ numsT (csT coin top n))) ++ strN 10 ++ [48 + ((coin + n - 1) % top + 1)] = tx ++ (strN 1 ++ (numsT [top] ++ numsT (csT coin top (n + 1)))) := by
  rw [csT_succ, numsT_app, str_10, numsT_c ((coin + n - 1) % top + 1), numsT_0]
  simp only [List.append_assoc, List.cons_append, List.nil_append]
theorem tx_steps (tx cs : List Nat) (top s s2 : Nat) : tx ++ (strN 1 ++ (numsT [top] ++ numsT cs)) ++ strN 11 ++ [48 + s] ++ strN 10 ++ [48 + s2] = tx ++ (strN 1 ++ (numsT [top] ++ (numsT cs ++ stT [s, s2]))) := by
  rw [show stT [s, s2] = 32 :: (strN 2 ++ numsT [s, s2]) from rfl, numsT_c s, numsT_c s2, numsT_0, str_11, str_10]
  simp only [List.append_assoc, List.cons_append, List.nil_append]
theorem tx_none (tx cs : List Nat) (top : Nat) : tx ++ (strN 1 ++ (numsT [top] ++ numsT cs)) = tx ++ (strN 1 ++ (numsT [top] ++ (numsT cs ++ stT []))) := by
  rw [show stT [] = [] from rfl, List.append_nil]
theorem tx_semi (tx cs ss : List Nat) (top : Nat) : tx ++ (strN 1 ++ (numsT [top] ++ (numsT cs ++ stT ss))) ++ strN 12 = tx ++ ladT top cs ss := by
  unfold ladT
  rw [str_12]
  simp only [List.append_assoc]
theorem tx_lok (tx : List Nat) (h : Nat) : tx ++ strN 13 ++ [48 + h] ++ strN 12 = tx ++ lokT h := by
  unfold lokT
  rw [str_12, str_13, numsT_c, numsT_c, numsT_0]
  simp only [List.append_assoc, List.cons_append, List.nil_append]
theorem tx_end (tx : List Nat) (x y z f : Nat) : tx ++ strN 14 ++ [48 + x] ++ strN 10 ++ [48 + y] ++ strN 10 ++ [48 + z] ++ strN 15 ++ [48 + f] ++ strN 12 = tx ++ tokT x y z ++ firT f := by
  unfold tokT firT
  rw [str_14, str_10, str_15, str_12, numsT_c x, numsT_c y, numsT_c z, numsT_0, numsT_c f, numsT_0]
  simp only [List.append_assoc, List.cons_append, List.nil_append]
theorem pre_len (tx cs : List Nat) (top : Nat) : (tx ++ (strN 1 ++ (numsT [top] ++ numsT cs))).length = tx.length + 8 + 2 * cs.length := by
  simp only [List.length_append, numsT_len, len_1, List.length_cons, List.length_nil]
  omega
theorem lad_len (top : Nat) (cs ss : List Nat) : (ladT top cs ss).length = 9 + 2 * cs.length + (stT ss).length := by
  unfold ladT
  simp only [List.length_append, numsT_len, len_1, List.length_cons, List.length_nil]
  omega
theorem st_len2 (s s2 : Nat) : (stT [s, s2]).length = 10 := by
  show (32 :: (strN 2 ++ numsT [s, s2])).length = 10
  simp only [List.length_append, numsT_len, len_2, List.length_cons, List.length_nil]
theorem lok_len (h : Nat) : (lokT h).length = 9 := by
  unfold lokT
  simp only [List.length_append, numsT_len, len_3, List.length_cons, List.length_nil]
theorem tok_len (x y z : Nat) : (tokT x y z).length = 13 := by
  unfold tokT
  simp only [List.length_append, numsT_len, len_4, List.length_cons, List.length_nil]
theorem fir_len (x : Nat) : (firT x).length = 8 := by
  unfold firT
  simp only [List.length_append, numsT_len, len_5, List.length_cons, List.length_nil]
theorem begins_from {N : Nat} {X : Nat → Int32} (w0 : Wd) (Post : Int32 → Wd → Prop) (hC0 : CI w0 S00) (hP : ∀ w' S' b, b ≤ 10000 → S'.ok b → bufOK S' → BegOK S' → CI w' S' → Post 1 w') : wp_L_begins N X w0 Post := by
  unfold wp_L_begins
  intro J20 J190 J69 J311 J174 J326 h20 h190 h69 h311 h174 h326
  -- the chunks
  have chunk : ∀ (tx : List Nat) (many mm : Nat), Rd tx mm (dfE many) → mm ≤ 20 → many ≤ 3 → tx.length ≤ 140 → (∀ c, c ∈ tx → c < 128) → ∀ (m u t : Nat) (w : Wd) (S : Sy) (b : Nat), tx.length ≤ 20 * (u + m) → u + m ≤ 7 → t + m ≤ 100 → S.ok b → b + 60 * (m + 1) ≤ 10000 → bufOK S → CI w S → SBt w tx → S.len = 20 * u → (∀ j, j < 20 * u → S.buf j = nI (fT tx 0 j)) → J311 t (nI many) (nI tx.length) (nI (20 * u)) w := by
    intro tx many mm hRd hmm hmany hlen hlt
    have parse : ∀ (u : Nat) (w : Wd) (S : Sy) (b : Nat), tx.length ≤ 20 * u → u ≤ 7 → S.ok b → b + 60 ≤ 10000 → bufOK S → CI w S → S.len = 20 * u → (∀ j, j < 20 * u → S.buf j = nI (fT tx 0 j)) → wp_L_parse w (nI tx.length) (fun cx1 w35 => cx1 = 0 ∧ ((((gL w35 25 0).toInt32) = nI many → (Post 1 (mx pC w w35))) ∧ (¬ ((gL w35 25 0).toInt32) = nI many → (Post 0 (mx pC w w35))))) := by
      intro u w S b hl hu hS hb hB hC hsl hbuf
      have hat : At S.buf 0 tx := At_of (fun j hj => by
        rw [Nat.zero_add, hbuf j (by omega)]
        unfold fT
        rw [Nat.zero_add, if_pos hj])
      obtain ⟨D, hD, e⟩ := Rd_end hRd (by omega) hat
      have ea : parA S (nI tx.length) = (0, nI D.g.n, newS S D) := by
        unfold parA
        rw [if_neg (fun q => q.elim (fun c => nI_pos (by omega) c) (fun c => nI_nlt (by omega) (by omega) c)), nI_clamp (by omega), e]
      have hA := okA_parse (x := nI tx.length) hS hB
      rw [ea] at hA
      have hBg : BegOK (newS S D) := ⟨by show D.g.n ≤ 3; have := hD.1; omega, fun l hl => hD.2 l (by have := hD.1; have hl : l < D.g.n := hl; omega), fun _ _ => rfl, rfl, (gamE_ok e).2.2⟩
      refine cc_parse hS hC ?_
      rw [ea]
      refine CL.mk (fun w1 hC1 e1 => ⟨rfl, fun _ => ?_, fun c => ?_⟩)
      · exact hP _ _ (b + 60) hb hA.1 hA.2 hBg (hC1.eq (eqC_mxC w w1))
      · exact absurd (by rw [e1, hD.1]) c
    intro m
    induction m with
    | zero =>
      intro u t w S b hl hu ht hS hb hB hC hT hsl hbuf
      refine h311 _ _ _ _ _ ⟨by omega, fun _ => parse u w S b (by omega) (by omega) hS (by omega) hB hC hsl hbuf, fun c => absurd (nI_le (by omega) (by omega)) c⟩
    | succ m ih =>
      intro u t w S b hl hu ht hS hb hB hC hT hsl hbuf
      refine h311 _ _ _ _ _ ⟨by omega, fun c => ?_, fun c => ?_⟩
      · refine parse u w S b ?_ (by omega) hS (by omega) hB hC hsl hbuf
        apply Decidable.byContradiction
        intro q
        exact nI_gt (by omega) (by omega) c
      · have hf := fT_lt hlt (20 * u)
        have inner : ∀ (k v : Nat) (w : Wd), v + k = 20 → CI w S → SBt w tx → (∀ i, i < 5 → gA w 20 i = nI (pvN (fT tx (20 * u)) i (min 4 (v - 4 * i)))) → J326 (t + 1) (nI many) (nI tx.length) (nI (20 * u)) (nI v) w := by
          intro k
          induction k with
          | zero =>
            intro v w hv hC hT hg
            have : v = 20 := by omega
            subst this
            refine h326 _ _ _ _ _ _ ⟨by omega, fun _ => ?_, fun c => absurd (show nI 20 ≤ nI 20 from Int32.le_refl _) c⟩
            rw [show gA w 20 0 = nI (pvN (fT tx (20 * u)) 0 4) from hg 0 (by omega), show gA w 20 1 = nI (pvN (fT tx (20 * u)) 1 4) from hg 1 (by omega), show gA w 20 2 = nI (pvN (fT tx (20 * u)) 2 4) from hg 2 (by omega), show gA w 20 3 = nI (pvN (fT tx (20 * u)) 3 4) from hg 3 (by omega), show gA w 20 4 = nI (pvN (fT tx (20 * u)) 4 4) from hg 4 (by omega)]
            have hA := okA_append (a := nI (pvN (fT tx (20 * u)) 0 4)) (b := nI (pvN (fT tx (20 * u)) 1 4)) (c := nI (pvN (fT tx (20 * u)) 2 4)) (d := nI (pvN (fT tx (20 * u)) 3 4)) (e := nI (pvN (fT tx (20 * u)) 4 4)) hS hB
            have ea : apdA S (nI (pvN (fT tx (20 * u)) 0 4)) (nI (pvN (fT tx (20 * u)) 1 4)) (nI (pvN (fT tx (20 * u)) 2 4)) (nI (pvN (fT tx (20 * u)) 3 4)) (nI (pvN (fT tx (20 * u)) 4 4)) = (0, nI (S.len + 20), appS S (nI (pvN (fT tx (20 * u)) 0 4)) (nI (pvN (fT tx (20 * u)) 1 4)) (nI (pvN (fT tx (20 * u)) 2 4)) (nI (pvN (fT tx (20 * u)) 3 4)) (nI (pvN (fT tx (20 * u)) 4 4))) := if_pos (by omega)
            rw [ea] at hA
            refine cc_append hS hC ?_
            rw [ea]
            intro w1 hC1 y8 e8
            have e9 : y8 = nI (20 * (u + 1)) := e8.trans ((nI_add (20 * u) 20).trans (congrArg nI (by omega)))
            subst e9
            refine ih (u + 1) (t + 1) (mx pC w w1) _ (b + 60) (by omega) (by omega) (by omega) hA.1 (by omega) hA.2 (hC1.eq (eqC_mxC w w1)) (hT.mxC w1) ?_ (fun j hj => ?_)
            · show S.len + 4 + 4 + 4 + 4 + 4 = 20 * (u + 1)
              omega
            · show (ap20 (S.len, S.buf) _ _ _ _ _).2 j = _
              rw [ap20_at hf, hsl]
              by_cases q : 20 * u ≤ j
              · rw [if_pos (by omega)]
                unfold fT
                rw [show 20 * u + (j - 20 * u) = 0 + j by omega]
              · rw [if_neg (by omega), hbuf j (by omega)]
          | succ k ih2 =>
            intro v w hv hC hT hg
            have ed : nI v / 4 = nI (v / 4) := pk_div (d := 4) (by omega) (by decide) (by decide)
            have es : nI (20 * u) + nI v = nI (20 * u + v) := nI_add _ _
            have hi : vp_in (nI (v / 4)) 5 := vp_in_nI (by omega) (by decide)
            have hstep : ∀ y, y = gA w 20 (v / 4) <<< (8 &&& 31) ||| nI (fT tx (20 * u) v) → ∀ y2, y2 = nI v + 1 → J326 (t + 1) (nI many) (nI tx.length) (nI (20 * u)) y2 (sA w 20 (v / 4) y) := by
              intro y ey y2 ey2
              have e2 : y2 = nI (v + 1) := ey2.trans (nI_add v 1)
              rw [hg (v / 4) (by omega), show min 4 (v - 4 * (v / 4)) = v % 4 by omega] at ey
              have e3 := pv_push (i := v / 4) (m := v % 4) hf (by omega)
              rw [show 4 * (v / 4) + v % 4 = v by omega] at e3
              rw [e3] at ey
              rw [e2, ey]
              refine ih2 (v + 1) _ (by omega) (hC.eq (eqC_sA20 w _ _)) (hT.of (fun _ => rfl) rfl (funext fun i => by rw [gA_sA, if_neg (by omega)])) (fun i hi => ?_)
              rw [gA_sA]
              by_cases q : i = v / 4
              · rw [if_pos ⟨rfl, q⟩, q, show min 4 (v + 1 - 4 * (v / 4)) = v % 4 + 1 by omega]
              · rw [if_neg (fun c => q c.2), hg i hi, show min 4 (v + 1 - 4 * i) = min 4 (v - 4 * i) by omega]
            refine h326 _ _ _ _ _ _ ⟨by omega, fun c => absurd c (show ¬ nI 20 ≤ nI v from nI_gt (by omega) (by omega)), fun _ => ?_⟩
            rw [ed, nI_clamp (by omega), es]
            refine ⟨hi, fun c1 => ?_, fun c1 => ?_⟩
            · have hge : ¬ 20 * u + v < tx.length := fun q => nI_gt (by omega) (by omega) c1
              intro y9 e9
              refine ⟨hi, fun y10 e10 => hstep y9 ?_ y10 e10⟩
              rw [e9, show fT tx (20 * u) v = 32 from if_neg hge]
              rfl
            · have hlt2 : 20 * u + v < tx.length := by
                apply Decidable.byContradiction
                intro q
                exact c1 (nI_le (by omega) (by omega))
              refine wh_charAt hT (by omega) hlt2 ?_
              intro y11 e11
              refine ⟨hi, fun y12 e12 => hstep y11 ?_ y12 e12⟩
              rw [e11, show fT tx (20 * u) v = tx.getD (20 * u + v) 0 from if_pos hlt2]
        refine inner 20 0 _ (by omega) (hC.eq (eqC_sF20 w _)) (hT.of (fun _ => rfl) rfl (funext fun i => by rw [gA_sF, if_neg (by omega)])) (fun i hi => ?_)
        rw [gA_sF, if_pos rfl, show min 4 (0 - 4 * i) = 0 by omega]
        rfl
  -- the locks and the end
  have lock : ∀ (many : Nat), 1 ≤ many → many ≤ 3 → ∀ (m k t : Nat) (tx : List Nat) (w : Wd), k + m = pkX N X 30 3 → CI w S00 → SBt w tx → Rd tx (many + k) (dfK many (1 + k + pkX N X 31 2)) → tx.length ≤ 75 + 9 * k → t ≤ 41 + 3 * k → J190 t (nI many) (nI k) w := by
    intro many hm1 hm3 m
    have p30 := pkX_lt N X 30 (n := 3) (by decide)
    induction m with
    | zero =>
      intro k t tx w hk hC hT hR hl ht
      refine h190 _ _ _ _ ⟨by omega, pick_at 30 3 rfl rfl (by decide) (by decide) (by decide) (fun _ => ⟨fun _ => ?_, fun c => absurd (nI_le (by omega) (by omega)) c⟩)⟩
      refine wh_apS (i := 14) (by decide) (by decide) hT (by rw [len_14]; omega) (fun w1 hT1 o1 => ?_)
      refine pick_at 33 4 rfl rfl (by decide) (by decide) (by decide) (fun p33 => ?_)
      refine wh_apI (by omega) hT1 (by simp only [List.length_append, List.length_cons, List.length_nil, len_14]; omega) (fun w2 hT2 o2 => ?_)
      refine wh_apS (i := 10) (by decide) (by decide) hT2 (by simp only [List.length_append, List.length_cons, List.length_nil, len_14, len_10]; omega) (fun w3 hT3 o3 => ?_)
      refine pick_at 34 4 rfl rfl (by decide) (by decide) (by decide) (fun p34 => ?_)
      refine wh_apI (by omega) hT3 (by simp only [List.length_append, List.length_cons, List.length_nil, len_14, len_10]; omega) (fun w4 hT4 o4 => ?_)
      refine wh_apS (i := 10) (by decide) (by decide) hT4 (by simp only [List.length_append, List.length_cons, List.length_nil, len_14, len_10]; omega) (fun w5 hT5 o5 => ?_)
      refine pick_at 35 4 rfl rfl (by decide) (by decide) (by decide) (fun p35 => ?_)
      refine wh_apI (by omega) hT5 (by simp only [List.length_append, List.length_cons, List.length_nil, len_14, len_10]; omega) (fun w6 hT6 o6 => ?_)
      refine wh_apS (i := 15) (by decide) (by decide) hT6 (by simp only [List.length_append, List.length_cons, List.length_nil, len_14, len_10, len_15]; omega) (fun w7 hT7 o7 => ?_)
      refine pick_at 36 2 rfl rfl (by decide) (by decide) (by decide) (fun p36 => ?_)
      refine wh_apI (by omega) hT7 (by simp only [List.length_append, List.length_cons, List.length_nil, len_14, len_10, len_15]; omega) (fun w8 hT8 o8 => ?_)
      refine wh_apS (i := 12) (by decide) (by decide) hT8 (by simp only [List.length_append, List.length_cons, List.length_nil, len_14, len_10, len_15, len_12]; omega) (fun w9 hT9 o9 => ?_)
      have hT := hT9.cast (tx_end tx _ _ _ _)
      have hC9 := hC.eq ((((((((o1.tr o2).tr o3).tr o4).tr o5).tr o6).tr o7).tr o8).tr o9).C
      refine wh_tlen hT ?_
      have hln : (tx ++ tokT (pkX N X 33 4) (pkX N X 34 4) (pkX N X 35 4) ++ firT (pkX N X 36 2)).length ≤ 140 := by
        rw [List.length_append, List.length_append, tok_len, fir_len]
        omega
      exact chunk _ many _ (Rd_fir (Rd_tok hR (by omega) (by omega) (by omega)) (by omega)) (by omega) hm3 hln hT.2.2.2.2.2 7 0 (t + 9) w9 S00 0 (by omega) (by omega) (by omega) S00_ok (by omega) (fun i hi => absurd hi (Nat.not_lt_zero i)) hC9 hT rfl (fun j hj => absurd hj (by omega))
    | succ m ih =>
      intro k t tx w hk hC hT hR hl ht
      refine h190 _ _ _ _ ⟨by omega, pick_at 30 3 rfl rfl (by decide) (by decide) (by decide) (fun _ => ⟨fun c => absurd c (nI_gt (by omega) (by omega)), fun _ => ?_⟩)⟩
      refine wh_apS (i := 13) (by decide) (by decide) hT (by rw [len_13]; omega) (fun w1 hT1 o1 => ?_)
      refine pick_at 31 2 rfl rfl (by decide) (by decide) (by decide) (fun p31 => ?_)
      rw [show (1 : Int32) + nI k + nI (pkX N X 31 2) = nI (1 + k + pkX N X 31 2) by rw [show (1 : Int32) = nI 1 from rfl, nI_add, nI_add]]
      refine wh_apI (by omega) hT1 (by simp only [List.length_append, List.length_cons, List.length_nil, len_13]; omega) (fun w2 hT2 o2 => ?_)
      refine wh_apS (i := 12) (by decide) (by decide) hT2 (by simp only [List.length_append, List.length_cons, List.length_nil, len_13, len_12]; omega) (fun w3 hT3 o3 => ?_)
      intro y4 e4
      have e5 : y4 = nI (k + 1) := e4.trans (nI_add k 1)
      subst e5
      refine ih (k + 1) (t + 3) _ w3 (by omega) (hC.eq ((o1.tr o2).tr o3).C) (hT3.cast (tx_lok tx _)) ?_ ?_ (by omega)
      · have := Rd_lok hR (by omega) (by omega) (by omega)
        rw [show 1 + (k + 1) + pkX N X 31 2 = 1 + k + pkX N X 31 2 + 1 by omega]
        exact this
      · rw [List.length_append, lok_len]
        omega
  obtain ⟨many, hmany⟩ : ∃ many, many = 1 + pkX N X 0 3 := ⟨_, rfl⟩
  have p0 := pkX_lt N X 0 (n := 3) (by decide)
  have hm1 : 1 ≤ many := by omega
  have hm3 : many ≤ 3 := by omega
  -- one ladder's end
  have semi : ∀ (k top : Nat) (cs ss tx : List Nat), k < many → (∀ (t : Nat) (tx : List Nat) (w : Wd), CI w S00 → SBt w tx → Rd tx (k + 1) (dfL (k + 1)) → tx.length ≤ 25 * (k + 1) → t ≤ 2 + 13 * (k + 1) → J20 t (nI many) (nI (k + 1)) w) → Rd tx k (dfL k) → tx.length ≤ 25 * k → 3 ≤ top → top < 10 → cs ≠ [] → cs.length ≤ 3 → (∀ c, c ∈ cs → 1 ≤ c ∧ c ≤ top) → cs.Nodup → ss.length ≤ 4 → (stT ss).length ≤ 10 → (∀ c, c ∈ ss → 1 ≤ c ∧ c < 10) → ss.Nodup → ∀ (t : Nat) (w : Wd), CI w S00 → SBt w (tx ++ (strN 1 ++ (numsT [top] ++ (numsT cs ++ stT ss)))) → t ≤ 14 + 13 * k → J174 t (nI many) (nI k) w := by
    intro k top cs ss tx hk hnext hR hl ht1 ht2 hc0 hc3 hc hcn hs4 hs10 hs hsn t w hC hT ht
    refine h174 _ _ _ _ ⟨by omega, ?_⟩
    refine wh_apS (i := 12) (by decide) (by decide) hT (by simp only [List.length_append, List.length_cons, List.length_nil, len_1, numsT_len, len_12]; omega) (fun w1 hT1 o1 => ?_)
    intro y7 e7
    have e8 : y7 = nI (k + 1) := e7.trans (nI_add k 1)
    subst e8
    refine hnext (t + 1) _ w1 (hC.eq o1.C) (hT1.cast (tx_semi tx cs ss top)) (Rd_lad hR (by omega) ht1 ht2 hc0 hc3 hc hcn hs4 hs hsn) ?_ (by omega)
    rw [List.length_append, lad_len]
    omega
  -- the coins of one ladder
  have coins : ∀ (k top coin : Nat) (tx : List Nat), k < many → (∀ (t : Nat) (tx : List Nat) (w : Wd), CI w S00 → SBt w tx → Rd tx (k + 1) (dfL (k + 1)) → tx.length ≤ 25 * (k + 1) → t ≤ 2 + 13 * (k + 1) → J20 t (nI many) (nI (k + 1)) w) → Rd tx k (dfL k) → tx.length ≤ 25 * k → 3 ≤ top → top < 10 → 1 ≤ coin → coin ≤ top → ∀ (m n t : Nat) (w : Wd), n + m = 1 + pkX N X (10 + k) 3 → CI w S00 → SBt w (tx ++ (strN 1 ++ (numsT [top] ++ numsT (csT coin top n)))) → t ≤ 4 + 13 * k + 2 * n → J69 t (nI many) (nI k) (nI top) (nI coin) (nI n) w := by
    intro k top coin tx hk hnext hR hl ht1 ht2 hc1 hc2 m
    have p10 := pkX_lt N X (10 + k) (n := 3) (by decide)
    induction m with
    | zero =>
      intro n t w hn hC hT ht
      obtain ⟨cn, cb⟩ := csT_ok ht2 ht1 hc2 hc1 (show n < 4 by omega)
      have hcl := csT_len coin top n
      have hc0 : csT coin top n ≠ [] := fun q => by
        rw [q] at hcl
        have : 0 = n := hcl
        omega
      refine h69 _ _ _ _ _ _ _ ⟨by omega, pick_at (10 + k) 3 (nI_add 10 k) rfl (by omega) (by decide) (by decide) (fun _ => ⟨fun _ => ?_, fun c => absurd (nI_lt (by omega) (by omega)) c⟩)⟩
      refine pick_at (15 + k) 3 (nI_add 15 k) rfl (by omega) (by decide) (by decide) (fun p15 => ?_)
      intro y5 e5
      have e6 : y5 = nI (1 + pkX N X (15 + k) 3) := e5.trans (nI_add 1 _)
      subst e6
      refine pick_at (20 + k) 2 (nI_add 20 k) rfl (by omega) (by decide) (by decide) (fun p20 => ⟨fun _ => ?_, fun _ => ?_⟩)
      · refine wh_apS (i := 11) (by decide) (by decide) hT (by rw [pre_len, hcl, len_11]; omega) (fun w1 hT1 o1 => ?_)
        refine wh_apI (by omega) hT1 (by rw [List.length_append, pre_len, hcl, len_11]; omega) (fun w2 hT2 o2 => ?_)
        refine wh_apS (i := 10) (by decide) (by decide) hT2 (by rw [List.length_append, List.length_append, pre_len, hcl, len_11, len_10, List.length_singleton]; omega) (fun w3 hT3 o3 => ?_)
        refine pick_at (25 + k) 2 (nI_add 25 k) rfl (by omega) (by decide) (by decide) (fun p25 => ?_)
        rw [show nI (1 + pkX N X (15 + k) 3) + 1 + nI (pkX N X (25 + k) 2) = nI (1 + pkX N X (15 + k) 3 + 1 + pkX N X (25 + k) 2) by rw [show (1 : Int32) = nI 1 from rfl, nI_add, nI_add]]
        refine wh_apI (by omega) hT3 (by rw [List.length_append, List.length_append, List.length_append, pre_len, hcl, len_11, len_10, List.length_singleton]; omega) (fun w4 hT4 o4 => ?_)
        refine semi k top _ _ tx hk hnext hR hl ht1 ht2 hc0 (by omega) cb cn ?_ (by rw [st_len2]; omega) ?_ ?_ (t + 4) w4 (hC.eq (((o1.tr o2).tr o3).tr o4).C) (hT4.cast (tx_steps tx _ top _ _)) (by omega)
        · show 2 ≤ 4
          decide
        · intro c hc
          simp only [List.mem_cons, List.not_mem_nil, or_false] at hc
          omega
        · simp only [List.nodup_cons, List.mem_cons, List.not_mem_nil, or_false, not_false_eq_true, List.nodup_nil, and_true]
          omega
      · exact semi k top _ [] tx hk hnext hR hl ht1 ht2 hc0 (by omega) cb cn (by decide) (by decide) (fun c hc => absurd hc List.not_mem_nil) List.nodup_nil t w hC (hT.cast (tx_none tx _ top)) (by omega)
    | succ m ih =>
      intro n t w hn hC hT ht
      have hcl := csT_len coin top n
      have hmd : (coin + n - 1) % top < top := Nat.mod_lt _ (by omega)
      refine h69 _ _ _ _ _ _ _ ⟨by omega, pick_at (10 + k) 3 (nI_add 10 k) rfl (by omega) (by decide) (by decide) (fun _ => ⟨fun c => absurd c (nI_nlt (by omega) (by omega)), fun _ => ?_⟩)⟩
      refine wh_apS (i := 10) (by decide) (by decide) hT (by rw [pre_len, hcl, len_10]; omega) (fun w1 hT1 o1 => ?_)
      refine ⟨fun q => by have := (nI_eq (a := top) (b := 0) (by omega) (by decide)).mp q; omega, ?_⟩
      have e1 : nI coin + nI n - 1 = nI (coin + n - 1) := by
        rw [nI_add]
        exact pk_sub (b := 1) (by omega)
      rw [e1, pk_rem (by omega) (by omega) (by omega), show nI ((coin + n - 1) % top) + 1 = nI ((coin + n - 1) % top + 1) from nI_add _ 1]
      refine wh_apI (by omega) hT1 (by rw [List.length_append, pre_len, hcl, len_10]; omega) (fun w2 hT2 o2 => ?_)
      intro y6 e6
      have e7 : y6 = nI (n + 1) := e6.trans (nI_add n 1)
      subst e7
      exact ih (n + 1) (t + 2) w2 (by omega) (hC.eq (o1.tr o2).C) (hT2.cast (tx_coin tx coin top n)) (by omega)
  -- the ladders
  have lad : ∀ (m k t : Nat) (tx : List Nat) (w : Wd), k + m = many → CI w S00 → SBt w tx → Rd tx k (dfL k) → tx.length ≤ 25 * k → t ≤ 2 + 13 * k → J20 t (nI many) (nI k) w := by
    intro m
    induction m with
    | zero =>
      intro k t tx w hk hC hT hR hl ht
      refine h20 _ _ _ _ ⟨by omega, fun _ => ?_, fun c => absurd (nI_le (by omega) (by omega)) c⟩
      have : k = many := by omega
      subst this
      exact lock k hm1 hm3 (pkX N X 30 3) 0 t tx w (by omega) hC hT (hR.mono (fun D hD => dfL_K hm1 hD _)) (by omega) (by omega)
    | succ m ih =>
      intro k t tx w hk hC hT hR hl ht
      refine h20 _ _ _ _ ⟨by omega, fun c => absurd c (nI_gt (by omega) (by omega)), fun _ => ?_⟩
      refine pick_at (1 + k) 7 (nI_add 1 k) rfl (by omega) (by decide) (by decide) (fun p1 => ?_)
      intro y2 e2
      have e3 : y2 = nI (3 + pkX N X (1 + k) 7) := e2.trans (nI_add 3 _)
      subst e3
      refine pick_at (5 + k) (3 + pkX N X (1 + k) 7) (nI_add 5 k) rfl (by omega) (by omega) (by omega) (fun p5 => ?_)
      intro y3 e3
      have e4 : y3 = nI (1 + pkX N X (5 + k) (3 + pkX N X (1 + k) 7)) := e3.trans (nI_add 1 _)
      subst e4
      refine wh_apS (i := 9) (by decide) (by decide) hT (by rw [len_9]; omega) (fun w1 hT1 o1 => ?_)
      refine wh_apI (by omega) hT1 (by rw [List.length_append, len_9]; omega) (fun w2 hT2 o2 => ?_)
      exact coins k _ _ tx (by omega) (fun t' tx' w' a1 a2 a3 a4 a5 => ih (k + 1) t' tx' w' (by omega) a1 a2 a3 a4 a5) hR hl (by omega) (by omega) (by omega) (by omega) (1 + pkX N X (10 + k) 3) 0 (t + 2) w2 (by omega) (hC.eq (o1.tr o2).C) (hT2.cast (tx_lad tx _ _)) (by omega)
  refine pick_at 0 3 rfl rfl (by decide) (by decide) (by decide) (fun _ => ?_)
  intro y1 e1 w2 hp
  have e2 : y1 = nI many := (e1.trans (nI_add 1 _)).trans (congrArg nI hmany.symm)
  subst e2
  exact lad many 0 (0 + 2) [] _ (by omega) (hC0.eq (eqC_mxS w0 w2)) (SBt_new w0 hp) (Rd_0 dfL_0) (Nat.le_refl _) (by omega)

/-! the model reads a text: its statements -/
/-- the model's draft -/
def MDr (w : Wd) (D : Dr) : Prop := gA w 17 0 = nI D.g.n ∧ (∀ l, l < D.g.n → gA w 17 (1 + 7 * l + 0) = nI (D.g.top l) ∧ gA w 17 (1 + 7 * l + 1) = nI (D.g.cn l) ∧ gA w 17 (1 + 7 * l + 2) = nI (D.g.co l) ∧ gA w 17 (1 + 7 * l + 3) = nI (D.g.lk l) ∧ gA w 17 (1 + 7 * l + 4) = nI (D.g.sz l) ∧ gA w 17 (1 + 7 * l + 5) = -1 ∧ gA w 17 (1 + 7 * l + 6) = nI 0) ∧ (∀ l, l < 6 → D.g.n ≤ l → gA w 17 (1 + 7 * l + 3) = 0 ∧ gA w 17 (1 + 7 * l + 6) = 0) ∧ (∀ p, p < 2 → ∀ k, k < 3 → gA w 17 (43 + 6 * p + k) = nI (D.tk k) ∧ gA w 17 (43 + 6 * p + (3 + k)) = 0) ∧ gA w 17 55 = nI D.fi ∧ gA w 17 56 = 0 ∧ gA w 17 57 = -1 ∧ gI w 15 11 = bI D.ht ∧ gI w 15 12 = bI D.hf
theorem MDr.of {w w' : Wd} {D : Dr} (h : MDr w D) (e : ∀ i, gA w' 17 i = gA w 17 i) (e1 : gI w' 15 11 = gI w 15 11) (e2 : gI w' 15 12 = gI w 15 12) : MDr w' D := by
  obtain ⟨h1, h2, h3, h4, h5, h6, h7, h8, h9⟩ := h
  refine ⟨(e _).trans h1, fun l hl => ?_, fun l hl hn => ⟨(e _).trans (h3 l hl hn).1, (e _).trans (h3 l hl hn).2⟩, fun p hp k hk => ⟨(e _).trans (h4 p hp k hk).1, (e _).trans (h4 p hp k hk).2⟩, (e _).trans h5, (e _).trans h6, (e _).trans h7, e1.trans h8, e2.trans h9⟩
  obtain ⟨a1, a2, a3, a4, a5, a6, a7⟩ := h2 l hl
  exact ⟨(e _).trans a1, (e _).trans a2, (e _).trans a3, (e _).trans a4, (e _).trans a5, (e _).trans a6, (e _).trans a7⟩
theorem MDr.O {w w' : Wd} {D : Dr} (h : MDr w D) (hF : FrO w w') : MDr w' D := h.of (fun i => hF.2 17 i) (hF.1 15 11 (by omega)) (hF.1 15 12 (by omega))
theorem g17 {w : Wd} {i j : Nat} {x v : Int32} (h : j ≠ i) (e : gA w 17 j = v) : gA (sA w 17 i x) 17 j = v := by
  rw [gA_sA, if_neg (fun c => h c.2)]
  exact e
theorem g17s {w : Wd} {i j : Nat} {x : Int32} (h : j = i) : gA (sA w 17 i x) 17 j = x := by
  rw [gA_sA, if_pos ⟨rfl, h⟩]
theorem MDr.add {w w' : Wd} {D : Dr} {top co sz : Nat} (h : MDr w D) (hn : D.g.n < 6) (e0 : gA w' 17 0 = nI (D.g.n + 1)) (t0 : gA w' 17 (1 + 7 * D.g.n + 0) = nI top) (t1 : gA w' 17 (1 + 7 * D.g.n + 1) = nI (pop co)) (t2 : gA w' 17 (1 + 7 * D.g.n + 2) = nI co) (t4 : gA w' 17 (1 + 7 * D.g.n + 4) = nI sz) (t5 : gA w' 17 (1 + 7 * D.g.n + 5) = -1) (e : ∀ j, j ≠ 0 → j ≠ 1 + 7 * D.g.n + 0 → j ≠ 1 + 7 * D.g.n + 1 → j ≠ 1 + 7 * D.g.n + 2 → j ≠ 1 + 7 * D.g.n + 4 → j ≠ 1 + 7 * D.g.n + 5 → gA w' 17 j = gA w 17 j) (e1 : gI w' 15 11 = gI w 15 11) (e2 : gI w' 15 12 = gI w 15 12) : MDr w' (D.g.add top co sz, D.2) := by
  obtain ⟨h1, h2, h3, h4, h5, h6, h7, h8, h9⟩ := h
  refine ⟨e0, fun l hl => ?_, fun l hl hge => ?_, fun p hp k hk => ⟨(e _ (by omega) (by omega) (by omega) (by omega) (by omega) (by omega)).trans (h4 p hp k hk).1, (e _ (by omega) (by omega) (by omega) (by omega) (by omega) (by omega)).trans (h4 p hp k hk).2⟩, (e _ (by omega) (by omega) (by omega) (by omega) (by omega) (by omega)).trans h5, (e _ (by omega) (by omega) (by omega) (by omega) (by omega) (by omega)).trans h6, (e _ (by omega) (by omega) (by omega) (by omega) (by omega) (by omega)).trans h7, e1.trans h8, e2.trans h9⟩
  · have hl : l < D.g.n + 1 := hl
    show gA w' 17 (1 + 7 * l + 0) = nI (if l = D.g.n then top else D.g.top l) ∧ gA w' 17 (1 + 7 * l + 1) = nI (if l = D.g.n then pop co else D.g.cn l) ∧ gA w' 17 (1 + 7 * l + 2) = nI (if l = D.g.n then co else D.g.co l) ∧ gA w' 17 (1 + 7 * l + 3) = nI (if l = D.g.n then 0 else D.g.lk l) ∧ gA w' 17 (1 + 7 * l + 4) = nI (if l = D.g.n then sz else D.g.sz l) ∧ gA w' 17 (1 + 7 * l + 5) = -1 ∧ gA w' 17 (1 + 7 * l + 6) = nI 0
    by_cases q : l = D.g.n
    · subst q
      simp only [if_pos]
      obtain ⟨u1, u2⟩ := h3 _ hn (Nat.le_refl _)
      exact ⟨t0, t1, t2, (e _ (by omega) (by omega) (by omega) (by omega) (by omega) (by omega)).trans u1, t4, t5, (e _ (by omega) (by omega) (by omega) (by omega) (by omega) (by omega)).trans u2⟩
    · simp only [if_neg q]
      obtain ⟨a1, a2, a3, a4, a5, a6, a7⟩ := h2 l (by omega)
      exact ⟨(e _ (by omega) (by omega) (by omega) (by omega) (by omega) (by omega)).trans a1, (e _ (by omega) (by omega) (by omega) (by omega) (by omega) (by omega)).trans a2, (e _ (by omega) (by omega) (by omega) (by omega) (by omega) (by omega)).trans a3, (e _ (by omega) (by omega) (by omega) (by omega) (by omega) (by omega)).trans a4, (e _ (by omega) (by omega) (by omega) (by omega) (by omega) (by omega)).trans a5, (e _ (by omega) (by omega) (by omega) (by omega) (by omega) (by omega)).trans a6, (e _ (by omega) (by omega) (by omega) (by omega) (by omega) (by omega)).trans a7⟩
  · have hge : D.g.n + 1 ≤ l := hge
    obtain ⟨u1, u2⟩ := h3 l hl (by omega)
    exact ⟨(e _ (by omega) (by omega) (by omega) (by omega) (by omega) (by omega)).trans u1, (e _ (by omega) (by omega) (by omega) (by omega) (by omega) (by omega)).trans u2⟩
def ZS (w : Wd) (buf : Nat → Int32) (lim : Nat) (x : Except Nat (Tk × Dr)) : Prop := (∀ e, x = .error e → MErr w e) ∧ ∀ t D, x = .ok (t, D) → MS w buf lim (.ok t) ∧ MDr w D
theorem ZS.err {w : Wd} {buf : Nat → Int32} {lim e : Nat} (h : MErr w e) : ZS w buf lim (.error e) := ⟨fun e' q => (by cases q; exact h), fun t D q => (by cases q)⟩
theorem ZS.ok {w : Wd} {buf : Nat → Int32} {lim : Nat} {t : Tk} {D : Dr} (h : MS w buf lim (.ok t)) (h2 : MDr w D) : ZS w buf lim (.ok (t, D)) := ⟨fun e q => (by cases q), fun t' D' q => (by cases q; exact ⟨h, h2⟩)⟩
theorem la0 (l : Nat) : 1 + (7 * nI l) = nI (1 + 7 * l) := by
  rw [show 1 + (7 * nI l) = nI 1 + nI 7 * nI l from rfl, pk_mul, nI_add]
set_option maxHeartbeats 4000000 in
theorem wm_ladderLine {w : Wd} {buf : Nat → Int32} {lim : Nat} {t : Tk} {D : Dr} {Post : Wd → Prop} (hlim : lim ≤ 400) (hby : ∀ i, i < lim → byI (buf i)) (hS : MS w buf lim (.ok t)) (hD : MDr w D) (hDk : DOK D) (h : ∀ w', ZS w' buf lim (ladE buf lim t D) → FrU w w' → Post w') : wp_X9_ladderLine w Post := by
  have hn := hDk.1.1
  obtain ⟨hT, ht, h8⟩ := hS.2 t rfl
  obtain ⟨o1, o2, o3, o4, o5⟩ := id ht
  unfold wp_X9_ladderLine
  rw [hD.1]
  refine ⟨fun c => ?_, fun c => ?_⟩
  · simp (disch := omega) only [fa_lit, nI_leI] at c
    refine wm_must_bad (k := 4) h8 hT.2.1 (by omega) (by omega) (fun w' hF he => ⟨fun _ => ?_, fun q => absurd rfl q⟩)
    refine h w' ?_ hF.U
    unfold ladE
    rw [if_pos c]
    exact ZS.err he
  simp (disch := omega) only [fa_lit, nI_leI] at c
  have hn5 : D.g.n < 6 := Nat.lt_of_not_le c
  refine wm_must_ok h8 (by decide) ⟨fun q => absurd q (by decide), fun _ => ?_⟩
  refine wm_goOnX hlim hby hS (fun w10 hF10 hS10 y4 e4 => ?_)
  have hS10 : MS w10 buf lim (.ok (tokN buf lim t.en)) := hS10
  obtain ⟨_, ht1, _⟩ := hS10.2 _ rfl
  rw [hF10.2 17 0, hD.1, la0] at e4
  subst e4
  generalize ht1e : tokN buf lim t.en = t1 at hS10 ht1
  refine wm_readX (x := .ok t1) (lo := 1) (hi := 12) (b := fun t => decide (1 ≤ t.nm ∧ t.nm ≤ 12)) hlim hby hS10 (fun t' e _ => by cases e; exact num_dec2 (hi := 12) ht1.2.2.2.2 (by omega) (by omega)) (fun v8 w11 hS11 hF11 hok8 her8 => ?_)
  have e0 : lkE (.ok t1) (fun t => decide (1 ≤ t.nm ∧ t.nm ≤ 12)) = match numE t1 1 12 with | .error e => .error e | .ok _ => .ok t1 := rfl
  have hv8 : 1 ≤ v8 ∧ v8 ≤ 12 := by
    cases hx : lkE (.ok t1) (fun t => decide (1 ≤ t.nm ∧ t.nm ≤ 12)) with
    | error e =>
      have := her8 e hx
      omega
    | ok t' =>
      obtain ⟨q1, q2, _, q4⟩ := hok8 t' hx
      cases q2
      have := of_decide_eq_true q4
      omega
  rw [nI_p0, show nI (1 + 7 * D.g.n) + 1 = nI (1 + 7 * D.g.n + 1) from nI_pL _ 1, show nI (1 + 7 * D.g.n) + 2 = nI (1 + 7 * D.g.n + 2) from nI_pL _ 2, show nI (1 + 7 * D.g.n) + 4 = nI (1 + 7 * D.g.n + 4) from nI_pL _ 4, show nI (1 + 7 * D.g.n) + 5 = nI (1 + 7 * D.g.n + 5) from nI_pL _ 5, nI_clamp (show 1 + 7 * D.g.n < 2 ^ 31 by omega), nI_clamp (show 1 + 7 * D.g.n + 1 < 2 ^ 31 by omega), nI_clamp (show 1 + 7 * D.g.n + 2 < 2 ^ 31 by omega), nI_clamp (show 1 + 7 * D.g.n + 4 < 2 ^ 31 by omega), nI_clamp (show 1 + 7 * D.g.n + 5 < 2 ^ 31 by omega), show gA (sA w11 17 (1 + 7 * D.g.n) (nI v8)) 17 (1 + 7 * D.g.n) = nI v8 from g17s rfl]
  have i0 : vp_in (nI (1 + 7 * D.g.n)) 140 := pk_in (1 + 7 * D.g.n) 140 (by omega)
  have i1 : vp_in (nI (1 + 7 * D.g.n + 1)) 140 := pk_in (1 + 7 * D.g.n + 1) 140 (by omega)
  have i2 : vp_in (nI (1 + 7 * D.g.n + 2)) 140 := pk_in (1 + 7 * D.g.n + 2) 140 (by omega)
  have i4 : vp_in (nI (1 + 7 * D.g.n + 4)) 140 := pk_in (1 + 7 * D.g.n + 4) 140 (by omega)
  have i5 : vp_in (nI (1 + 7 * D.g.n + 5)) 140 := pk_in (1 + 7 * D.g.n + 5) 140 (by omega)
  refine ⟨i0, i0, ?_⟩
  refine wm_readSetX (most := 3) hlim hby hv8.2 (by omega) (hS11.a _ _) (fun v9 w12 hv9 hS12 hF12 hval9 => ⟨i2, i2, ?_⟩)
  rw [show gA (sA w12 17 (1 + 7 * D.g.n + 2) (nI v9)) 17 (1 + 7 * D.g.n + 2) = nI v9 from g17s rfl]
  refine wh_bits hv9 ⟨i1, i4, i5, ?_⟩
  generalize hW : sA (sA (sA (sA w12 17 (1 + 7 * D.g.n + 2) (nI v9)) 17 (1 + 7 * D.g.n + 1) (nI (pop v9))) 17 (1 + 7 * D.g.n + 4) 14) 17 (1 + 7 * D.g.n + 5) (-1) = W
  have wS : MS W buf lim (stE buf lim (nxE buf lim (lkE (.ok t1) (fun t => decide (1 ≤ t.nm ∧ t.nm ≤ 12)))) v8 3) := by
    rw [← hW]
    exact (((hS12.a _ _).a _ _).a _ _).a _ _
  have wU : FrU w W := by
    rw [← hW]
    exact (((((((hF10.U.tr hF11.U).tr (FrU.a _ _ _)).tr hF12.U).tr (FrU.a _ _ _)).tr (FrU.a _ _ _)).tr (FrU.a _ _ _)).tr (FrU.a _ _ _))
  have w12a : ∀ j, gA w12 17 j = gA (sA w11 17 (1 + 7 * D.g.n) (nI v8)) 17 j := fun j => hF12.2 17 j
  have w11a : ∀ j, gA w11 17 j = gA w 17 j := fun j => (hF11.2 17 j).trans (hF10.2 17 j)
  have wn : ∀ j, j ≠ 1 + 7 * D.g.n + 0 → j ≠ 1 + 7 * D.g.n + 1 → j ≠ 1 + 7 * D.g.n + 2 → j ≠ 1 + 7 * D.g.n + 4 → j ≠ 1 + 7 * D.g.n + 5 → gA W 17 j = gA w 17 j := fun j q0 q1 q2 q4 q5 => by
    rw [← hW]
    exact g17 q5 (g17 q4 (g17 q1 (g17 q2 ((w12a j).trans (g17 q0 (w11a j))))))
  have wt0 : gA W 17 (1 + 7 * D.g.n + 0) = nI v8 := by
    rw [← hW]
    exact g17 (by omega) (g17 (by omega) (g17 (by omega) (g17 (by omega) ((w12a _).trans (g17s rfl)))))
  have wt1 : gA W 17 (1 + 7 * D.g.n + 1) = nI (pop v9) := by
    rw [← hW]
    exact g17 (by omega) (g17 (by omega) (g17s rfl))
  have wt2 : gA W 17 (1 + 7 * D.g.n + 2) = nI v9 := by
    rw [← hW]
    exact g17 (by omega) (g17 (by omega) (g17 (by omega) (g17s rfl)))
  have wt4 : gA W 17 (1 + 7 * D.g.n + 4) = nI 14 := by
    rw [← hW]
    exact g17 (by omega) (g17s rfl)
  have wt5 : gA W 17 (1 + 7 * D.g.n + 5) = -1 := by
    rw [← hW]
    exact g17s rfl
  have wI : ∀ k, k = 11 ∨ k = 12 → gI W 15 k = gI w 15 k := fun k hk => by
    rw [← hW]
    show gI w12 15 k = _
    rw [hF12.1 15 k (by omega)]
    show gI w11 15 k = _
    rw [hF11.1 15 k (by omega), hF10.1 15 k (by omega)]
  clear hW
  have hladE : ladE buf lim t D = match numE t1 1 12 with
    | .error e => .error e
    | .ok top => match setF buf lim top 3 5 0 0 (tokN buf lim t1.en) with
      | .error e => .error e
      | .ok (co, t3) => if isW buf 2 t3 = true then
          match setF buf lim 12 4 6 0 0 (tokN buf lim t3.en) with
          | .error e => .error e
          | .ok (sz, t5) => .ok (t5, D.g.add top co sz, D.2)
        else .ok (t3, D.g.add top co 14, D.2) := by
    unfold ladE
    rw [if_neg c, ht1e]
    rfl
  refine wm_isWordX hlim wS (by decide) ?_
  rw [bI_0]
  have e17 : gA W 17 0 = nI D.g.n := (wn 0 (by omega) (by omega) (by omega) (by omega) (by omega)).trans hD.1
  cases hnE : numE t1 1 12 with
  | error e =>
    rw [hnE] at e0 hladE
    simp only at e0 hladE
    rw [e0] at wS
    have wS : MS W buf lim (.error e) := wS
    refine ⟨fun _ y5 e5 => ?_, fun q => ?_⟩
    · refine h _ ?_ (wU.tr (FrU.a _ _ _))
      rw [hladE]
      exact ZS.err ((wS.1 e rfl).of rfl rfl)
    · rw [e0] at q
      exact absurd rfl q
  | ok top =>
    obtain ⟨v1, v2, v3, v4⟩ := numE_ok hnE
    rw [hnE] at e0 hladE
    simp only at e0 hladE
    obtain ⟨hv8t, _, _, _⟩ := hok8 t1 e0
    obtain rfl : v8 = top := by omega
    rw [e0] at wS hval9 ⊢
    have hx3 : nxE buf lim (.ok t1) = .ok (tokN buf lim t1.en) := rfl
    rw [hx3] at wS hval9 ⊢
    have hst : stE buf lim (.ok (tokN buf lim t1.en)) v8 3 = match setF buf lim v8 3 (3 + 2) 0 0 (tokN buf lim t1.en) with | .error e => .error e | .ok (_, t') => .ok t' := rfl
    cases hsE : setF buf lim v8 3 5 0 0 (tokN buf lim t1.en) with
    | error e =>
      rw [show 3 + 2 = 5 from rfl, hsE] at hst
      rw [hsE] at hladE
      simp only at hst hladE
      rw [hst] at wS ⊢
      refine ⟨fun _ y5 e5 => ?_, fun q => absurd rfl q⟩
      refine h _ ?_ (wU.tr (FrU.a _ _ _))
      rw [hladE]
      exact ZS.err ((wS.1 e rfl).of rfl rfl)
    | ok y =>
      obtain ⟨co, t3⟩ := y
      have hv9c : v9 = co := hval9 _ _ _ rfl hsE
      subst hv9c
      rw [show 3 + 2 = 5 from rfl, hsE] at hst
      rw [hsE] at hladE
      simp only at hst hladE
      rw [hst] at wS ⊢
      refine ⟨fun c2 y5 e5 => ?_, fun c2 => ?_⟩
      · have c2 : isW buf 2 t3 = false := c2
        rw [if_neg (by rw [c2]; decide)] at hladE
        rw [e17, nI_1] at e5
        subst e5
        refine h _ ?_ (wU.tr (FrU.a _ _ _))
        rw [hladE]
        refine ZS.ok (wS.a _ _) (hD.add hn5 (g17s rfl) (g17 (by omega) wt0) (g17 (by omega) wt1) (g17 (by omega) wt2) (g17 (by omega) wt4) (g17 (by omega) wt5) (fun j q q0 q1 q2 q4 q5 => g17 q (wn j q0 q1 q2 q4 q5)) (wI 11 (by omega)) (wI 12 (by omega)))
      · have c2 : ¬ isW buf 2 t3 = false := c2
        rw [if_pos (by simpa using c2)] at hladE
        refine wm_goOnX hlim hby wS (fun w15 hF15 hS15 => ?_)
        refine wm_readSetX (hi := 12) (most := 4) hlim hby (by omega) (by omega) hS15 (fun v12 w16 hv12 hS16 hF16 hval12 => ⟨i4, fun y6 e6 => ?_⟩)
        have w16a : ∀ j, gA w16 17 j = gA W 17 j := fun j => (hF16.2 17 j).trans (hF15.2 17 j)
        rw [show gA (sA w16 17 (1 + 7 * D.g.n + 4) (nI v12)) 17 0 = nI D.g.n from g17 (by omega) ((w16a 0).trans e17), nI_1] at e6
        subst e6
        have wU16 := (((wU.tr hF15.U).tr hF16.U).tr (FrU.a w16 (1 + 7 * D.g.n + 4) (nI v12))).tr (FrU.a _ 0 (nI (D.g.n + 1)))
        have hst2 : stE buf lim (.ok (tokN buf lim t3.en)) 12 4 = match setF buf lim 12 4 (4 + 2) 0 0 (tokN buf lim t3.en) with | .error e => .error e | .ok (_, t') => .ok t' := rfl
        have hS16 : MS w16 buf lim (stE buf lim (.ok (tokN buf lim t3.en)) 12 4) := hS16
        refine h _ ?_ wU16
        cases hzE : setF buf lim 12 4 6 0 0 (tokN buf lim t3.en) with
        | error e =>
          rw [show 4 + 2 = 6 from rfl, hzE] at hst2
          rw [hzE] at hladE
          simp only at hst2 hladE
          rw [hst2] at hS16
          rw [hladE]
          exact ZS.err ((hS16.1 e rfl).of rfl rfl)
        | ok y =>
          obtain ⟨sz, t5⟩ := y
          have hvz : v12 = sz := hval12 _ _ _ rfl hzE
          subst hvz
          rw [show 4 + 2 = 6 from rfl, hzE] at hst2
          rw [hzE] at hladE
          simp only at hst2 hladE
          rw [hst2] at hS16
          rw [hladE]
          have k11 : ∀ k, k = 11 ∨ k = 12 → gI w16 15 k = gI w 15 k := fun k hk => by
            rw [hF16.1 15 k (by omega), hF15.1 15 k (by omega)]
            exact wI k hk
          refine ZS.ok ((hS16.a _ _).a _ _) (hD.add hn5 (g17s rfl) (g17 (by omega) (g17 (by omega) ((w16a _).trans wt0))) (g17 (by omega) (g17 (by omega) ((w16a _).trans wt1))) (g17 (by omega) (g17 (by omega) ((w16a _).trans wt2))) (g17 (by omega) (g17s rfl)) (g17 (by omega) (g17 (by omega) ((w16a _).trans wt5))) (fun j q q0 q1 q2 q4 q5 => g17 q (g17 q4 ((w16a j).trans (wn j q0 q1 q2 q4 q5)))) (k11 11 (by omega)) (k11 12 (by omega)))

/-! the model reads a text: the other statements, the game; append -/
theorem MDr.lu {w : Wd} {D : Dr} {l v : Nat} (h : MDr w D) (hn : D.g.n ≤ 6) (hl : l < D.g.n) : MDr (sA w 17 (1 + 7 * l + 3) (nI v)) (D.g.slk l v, D.2) := by
  obtain ⟨h1, h2, h3, h4, h5, h6, h7, h8, h9⟩ := h
  refine ⟨g17 (by omega) h1, fun k hk => ?_, fun k hk hge => ?_, fun p hp k hk => ⟨g17 (by omega) (h4 p hp k hk).1, g17 (by omega) (h4 p hp k hk).2⟩, g17 (by omega) h5, g17 (by omega) h6, g17 (by omega) h7, h8, h9⟩
  · obtain ⟨a1, a2, a3, a4, a5, a6, a7⟩ := h2 k hk
    refine ⟨g17 (by omega) a1, g17 (by omega) a2, g17 (by omega) a3, ?_, g17 (by omega) a5, g17 (by omega) a6, g17 (by omega) a7⟩
    show _ = nI (if k = l then v else D.g.lk k)
    by_cases q : k = l
    · rw [if_pos q]
      exact g17s (by omega)
    · rw [if_neg q]
      exact g17 (by omega) a4
  · have hge : D.g.n ≤ k := hge
    exact ⟨g17 (by omega) (h3 k hk hge).1, g17 (by omega) (h3 k hk hge).2⟩
theorem MDr.tu {w : Wd} {D : Dr} {k v : Nat} (h : MDr w D) (hn : D.g.n ≤ 6) (hk : k < 3) : MDr (sA (sA w 17 (43 + k) (nI v)) 17 (49 + k) (nI v)) (D.g, fun i => if i = k then v else D.tk i, D.fi, D.ht, D.hf) := by
  obtain ⟨h1, h2, h3, h4, h5, h6, h7, h8, h9⟩ := h
  have gg : ∀ {j : Nat} {x : Int32}, j ≠ 43 + k → j ≠ 49 + k → gA w 17 j = x → gA (sA (sA w 17 (43 + k) (nI v)) 17 (49 + k) (nI v)) 17 j = x := fun q1 q2 e => g17 q2 (g17 q1 e)
  refine ⟨gg (by omega) (by omega) h1, fun l hl => ?_, fun l hl hge => ⟨gg (by omega) (by omega) (h3 l hl hge).1, gg (by omega) (by omega) (h3 l hl hge).2⟩, fun p hp j hj => ⟨?_, gg (by omega) (by omega) (h4 p hp j hj).2⟩, gg (by omega) (by omega) h5, gg (by omega) (by omega) h6, gg (by omega) (by omega) h7, h8, h9⟩
  · have hl : l < D.g.n := hl
    obtain ⟨a1, a2, a3, a4, a5, a6, a7⟩ := h2 l hl
    exact ⟨gg (by omega) (by omega) a1, gg (by omega) (by omega) a2, gg (by omega) (by omega) a3, gg (by omega) (by omega) a4, gg (by omega) (by omega) a5, gg (by omega) (by omega) a6, gg (by omega) (by omega) a7⟩
  · show _ = nI (if j = k then v else D.tk j)
    by_cases q : j = k
    · rw [if_pos q]
      rcases (show p = 0 ∨ p = 1 by omega) with e | e
      · exact g17 (by omega) (g17s (by omega))
      · exact g17s (by omega)
    · rw [if_neg q]
      exact gg (by omega) (by omega) (h4 p hp j hj).1
theorem MDr.fu {w : Wd} {D : Dr} {v : Nat} (h : MDr w D) (hn : D.g.n ≤ 6) : MDr (sA w 17 55 (nI v)) (D.g, D.tk, v, D.ht, D.hf) := by
  obtain ⟨h1, h2, h3, h4, h5, h6, h7, h8, h9⟩ := h
  refine ⟨g17 (by omega) h1, fun l hl => ?_, fun l hl hge => ⟨g17 (by omega) (h3 l hl hge).1, g17 (by omega) (h3 l hl hge).2⟩, fun p hp j hj => ⟨g17 (by omega) (h4 p hp j hj).1, g17 (by omega) (h4 p hp j hj).2⟩, g17s rfl, g17 (by omega) h6, g17 (by omega) h7, h8, h9⟩
  have hl : l < D.g.n := hl
  obtain ⟨a1, a2, a3, a4, a5, a6, a7⟩ := h2 l hl
  exact ⟨g17 (by omega) a1, g17 (by omega) a2, g17 (by omega) a3, g17 (by omega) a4, g17 (by omega) a5, g17 (by omega) a6, g17 (by omega) a7⟩
theorem MDr.ht {w : Wd} {D : Dr} (h : MDr w D) : MDr (sI w 15 11 1) (D.g, D.tk, D.fi, true, D.hf) := by
  obtain ⟨h1, h2, h3, h4, h5, h6, h7, h8, h9⟩ := h
  exact ⟨h1, h2, h3, h4, h5, h6, h7, by rw [gI_sI, if_pos ⟨rfl, rfl⟩]; rfl, by rw [gI_sI, if_neg (by omega)]; exact h9⟩
theorem MDr.hf {w : Wd} {D : Dr} (h : MDr w D) : MDr (sI w 15 12 1) (D.g, D.tk, D.fi, D.ht, true) := by
  obtain ⟨h1, h2, h3, h4, h5, h6, h7, h8, h9⟩ := h
  exact ⟨h1, h2, h3, h4, h5, h6, h7, by rw [gI_sI, if_neg (by omega)]; exact h8, by rw [gI_sI, if_pos ⟨rfl, rfl⟩]; rfl⟩
theorem MS.s {w : Wd} {buf : Nat → Int32} {lim : Nat} {x : Except Nat Tk} (h : MS w buf lim x) (k : Nat) (v : Int32) (hk : k = 11 ∨ k = 12) : MS (sI w 15 k v) buf lim x := ⟨fun e q => (h.1 e q).of (by rw [gI_sI, if_neg (by omega)]) (by rw [gI_sI, if_neg (by omega)]), fun t q => ⟨(h.2 t q).1.of (fun j _ _ => by rw [gI_sI, if_neg (by omega)]) (fun _ => rfl), (h.2 t q).2.1, by rw [gI_sI, if_neg (by omega)]; exact (h.2 t q).2.2⟩⟩
theorem wm_goOn_err {w : Wd} {e : Nat} {Post : Wd → Prop} (he : MErr w e) (h : Post w) : wp_X9_goOn w Post := by
  unfold wp_X9_goOn
  exact ⟨fun c => absurd c he.ne, fun _ => h⟩
set_option maxHeartbeats 4000000 in
theorem wm_lockLine {w : Wd} {buf : Nat → Int32} {lim : Nat} {t : Tk} {D : Dr} {Post : Wd → Prop} (hlim : lim ≤ 400) (hby : ∀ i, i < lim → byI (buf i)) (hS : MS w buf lim (.ok t)) (hD : MDr w D) (hDk : DOK D) (h : ∀ w', ZS w' buf lim (lokE buf lim t D) → FrU w w' → Post w') : wp_X9_lockLine w Post := by
  have hn := hDk.1.1
  unfold wp_X9_lockLine
  refine wm_goOnX hlim hby hS (fun w1 hF1 hS1 => ?_)
  have hS1 : MS w1 buf lim (.ok (tokN buf lim t.en)) := hS1
  obtain ⟨hT1, ht1, h81⟩ := hS1.2 _ rfl
  have hD1 := hD.O hF1
  unfold lokE at h
  generalize tokN buf lim t.en = t1 at h hS1 hT1 ht1
  rw [hD1.1]
  have e : (nI D.g.n - 1).toInt = (D.g.n : Int) - 1 := pk_sub_toInt (a := D.g.n) (b := 1) (by omega) (by omega)
  refine wm_readX (x := .ok t1) (lo := 0) (b := fun t => decide (t.nm < D.g.n)) hlim hby hS1 (fun t' q _ => ?_) (fun v w2 hS2 hF2 hok her y1 e1 => ?_)
  · cases q
    have hnm := ht1.2.2.2.2
    rw [decide_eq_true_eq, fa_lt (nI D.g.n - 1), e, nI_toInt (by omega)]
    refine ⟨fun q c => c.elim (fun c => nI_pos (by omega) c) (fun c => by omega), fun q => ?_⟩
    refine Nat.lt_of_not_le (fun c => q (Or.inr (by omega)))
  have e0 : lkE (.ok t1) (fun t => decide (t.nm < D.g.n)) = match numB t1 (decide (t1.nm < D.g.n)) with | .error e => .error e | .ok _ => .ok t1 := rfl
  rw [la0] at e1
  subst e1
  cases hnE : numB t1 (decide (t1.nm < D.g.n)) with
  | error e =>
    rw [hnE] at e0 h
    simp only at e0 h
    rw [e0] at hS2
    have he := hS2.1 e rfl
    refine ⟨fun c => absurd c he.ne, fun _ => ?_⟩
    refine wm_lookX (x := .error e) (lo := 1) (hi := 1) (b := fun _ => true) hlim hS2 (fun t q => by cases q) (fun v3 w3 hS3 hF3 _ _ => ?_)
    have he3 := hS3.1 e rfl
    refine ⟨fun c => absurd c he3.ne, fun _ => wm_goOn_err he3 ⟨fun c => absurd c he3.ne, fun _ => ?_⟩⟩
    exact h w3 (ZS.err he3) ((hF1.tr hF2).tr hF3).U
  | ok l =>
    obtain ⟨v1, v2, v3⟩ := numB_ok hnE
    rw [decide_eq_true_eq, ← v3] at v2
    rw [hnE] at e0 h
    simp only at e0 h
    obtain ⟨hvl, _⟩ := hok t1 e0
    obtain rfl : v = l := by omega
    rw [e0] at hS2
    have hS2 : MS w2 buf lim (.ok (tokN buf lim t1.en)) := hS2
    obtain ⟨hT2, ht2, h82⟩ := hS2.2 _ rfl
    generalize tokN buf lim t1.en = t2 at h hS2 hT2 ht2
    have hD2 := hD1.O hF2
    obtain ⟨a1, a2, a3, a4, a5, a6, a7⟩ := hD2.2.1 v v2
    obtain ⟨b1, b2, b3, b4, b5, b6, b7, b8, b9, b10⟩ := hDk.1.2 v v2
    rw [nI_p0, show nI (1 + 7 * v) + 3 = nI (1 + 7 * v + 3) from nI_pL _ 3, nI_clamp (show 1 + 7 * v < 2 ^ 31 by omega), nI_clamp (show 1 + 7 * v + 3 < 2 ^ 31 by omega), show gA w2 17 (1 + 7 * v) = nI (D.g.top v) from a1]
    have i0 : vp_in (nI (1 + 7 * v)) 140 := pk_in (1 + 7 * v) 140 (by omega)
    have i3 : vp_in (nI (1 + 7 * v + 3)) 140 := pk_in (1 + 7 * v + 3) 140 (by omega)
    refine ⟨fun _ => ⟨i0, ?_⟩, fun q => absurd h82 q⟩
    refine wm_lookX (x := .ok t2) (lo := 1) (b := fun t => decide (1 ≤ t.nm ∧ t.nm ≤ D.g.top v)) hlim hS2 (fun t' q _ => by cases q; exact num_dec2 ht2.2.2.2.2 (by omega) (by omega)) (fun v6 w10 hS10 hF10 hok6 her6 => ?_)
    have e6 : lkE (.ok t2) (fun t => decide (1 ≤ t.nm ∧ t.nm ≤ D.g.top v)) = match numE t2 1 (D.g.top v) with | .error e => .error e | .ok _ => .ok t2 := rfl
    have hFa := (hF1.tr hF2).tr hF10
    cases hmE : numE t2 1 (D.g.top v) with
    | error e =>
      rw [hmE] at e6 h
      simp only at e6 h
      rw [e6] at hS10
      have he := hS10.1 e rfl
      refine ⟨fun c => absurd c he.ne, fun _ => wm_goOn_err he ⟨fun c => absurd c he.ne, fun _ => ?_⟩⟩
      exact h w10 (ZS.err he) hFa.U
    | ok hh =>
      obtain ⟨u1, u2, u3, u4⟩ := numE_ok hmE
      rw [hmE] at e6 h
      simp only at e6 h
      obtain ⟨hv6, _⟩ := hok6 t2 e6
      obtain rfl : v6 = hh := by omega
      rw [e6] at hS10
      obtain ⟨hT10, ht10, h810⟩ := hS10.2 _ rfl
      have hD10 := hD2.O hF10
      have o1 := ht10.1
      have o2 := ht10.2.1
      refine ⟨fun _ => ⟨i3, ?_⟩, fun q => absurd h810 q⟩
      rw [show gA w10 17 (1 + 7 * v + 3) = nI (D.g.lk v) from (hD10.2.1 v v2).2.2.2.1]
      refine wh_has (by omega) (by omega) ?_
      rw [bI_0]
      refine ⟨fun c => ?_, fun c => ?_⟩
      · rw [if_neg (by rw [c]; decide)] at h
        refine wm_must_ok h810 (by decide) ?_
        refine wm_goOnX hlim hby hS10 (fun w16 hF16 hS16 => ?_)
        have hS16 : MS w16 buf lim (.ok (tokN buf lim t2.en)) := hS16
        have h816 := (hS16.2 _ rfl).2.2
        have hD16 := hD10.O hF16
        refine ⟨fun _ y12 e12 => ?_, fun q => absurd h816 q⟩
        subst e12
        rw [nI_clamp (show 1 + 7 * v + 3 < 2 ^ 31 by omega)]
        refine ⟨i3, fun y13 e13 => ⟨i3, ?_⟩⟩
        rw [(hD16.2.1 v v2).2.2.2.1, nI_shl1 (by omega), fa_or] at e13
        subst e13
        exact h _ (ZS.ok (hS16.a _ _) (hD16.lu hn v2)) ((hFa.tr hF16).U.tr (FrU.a _ _ _))
      · rw [if_pos (by simpa using c)] at h
        refine wm_must_bad (k := 3) h810 hT10.2.1 (by omega) (by omega) (fun w13 hF13 he => ?_)
        refine wm_goOn_err he ⟨fun c => absurd c he.ne, fun _ => ?_⟩
        exact h w13 (ZS.err he) (hFa.tr hF13).U
set_option maxHeartbeats 4000000 in
theorem wm_tokensLine {w : Wd} {buf : Nat → Int32} {lim : Nat} {t : Tk} {D : Dr} {Post : Wd → Prop} (hlim : lim ≤ 400) (hby : ∀ i, i < lim → byI (buf i)) (hS : MS w buf lim (.ok t)) (hD : MDr w D) (hn : D.g.n ≤ 6) (h : ∀ w', ZS w' buf lim (tokE buf lim t D) → FrU w w' → Post w') : wp_X9_tokensLine w Post := by
  obtain ⟨hT, ht, h8⟩ := hS.2 t rfl
  have o1 := ht.1
  have o2 := ht.2.1
  unfold wp_X9_tokensLine
  unfold tokE at h
  intro J hJ
  rw [hD.2.2.2.2.2.2.2.1, bI_0]
  refine ⟨fun c => ?_, fun c => ?_⟩
  · rw [if_neg (by rw [c]; decide)] at h
    refine wm_must_ok h8 (by decide) ⟨fun q => absurd q (by decide), fun _ => ?_⟩
    refine wm_goOnX hlim hby (hS.s 11 1 (Or.inl rfl)) (fun w1 hF1 hS1 => ?_)
    have hU1 : FrU w w1 := (FrU.s w 11 1 (by omega)).tr hF1.U
    have hD1 := hD.ht.O hF1
    generalize hR : tkF buf lim 3 0 (tokN buf lim t.en) D.tk = R at h
    have key : ∀ m k, k + m = 3 → ∀ x f w', MS w' buf lim x → (∀ e, x = .error e → R = .error e) → (∀ t', x = .ok t' → tkF buf lim m k t' f = R ∧ MDr w' (D.g, f, D.fi, true, D.hf)) → FrU w w' → J (nI k) w' := by
      intro m
      induction m with
      | zero =>
        intro k hk x f w' hSx hxe hxo hU
        obtain rfl : k = 3 := by omega
        refine hJ _ _ ⟨fun _ => h w' ?_ hU, fun c => absurd (by decide) c⟩
        cases x with
        | error e =>
          rw [hxe e rfl]
          exact ZS.err (hSx.1 e rfl)
        | ok t' =>
          obtain ⟨q1, q2⟩ := hxo t' rfl
          unfold tkF at q1
          rw [← q1]
          exact ZS.ok hSx q2
      | succ m ih =>
        intro k hk x f w' hSx hxe hxo hU
        refine hJ _ _ ⟨fun c => ?_, fun _ => ?_⟩
        · simp (disch := omega) only [fa_lit, nI_leI] at c
          omega
        refine wm_readX (x := x) (lo := 0) (hi := 9) (b := fun t => decide (0 ≤ t.nm ∧ t.nm ≤ 9)) hlim hby hSx (fun t' q _ => num_dec2 (hi := 9) (hSx.2 t' q).2.1.2.2.2.2 (by omega) (by omega)) (fun v w5 hS5 hF5 hok her => ?_)
        rw [show 43 + nI k = nI (43 + k) from nI_add 43 k, show 49 + nI k = nI (49 + k) from nI_add 49 k, nI_clamp (show 43 + k < 2 ^ 31 by omega), nI_clamp (show 49 + k < 2 ^ 31 by omega)]
        refine ⟨pk_in (43 + k) 140 (by omega), pk_in (49 + k) 140 (by omega), fun y e => ?_⟩
        subst e
        rw [nI_1]
        refine ih (k + 1) (by omega) _ (fun i => if i = k then v else f i) _ ((hS5.a _ _).a _ _) (fun e q => ?_) (fun t2 q => ?_) (((hU.tr hF5.U).tr (FrU.a _ _ _)).tr (FrU.a _ _ _))
        · cases x with
          | error e' =>
            cases q
            exact hxe _ rfl
          | ok t' =>
            obtain ⟨q1, _⟩ := hxo t' rfl
            have e0 : lkE (.ok t') (fun t => decide (0 ≤ t.nm ∧ t.nm ≤ 9)) = match numE t' 0 9 with | .error e => .error e | .ok _ => .ok t' := rfl
            unfold tkF at q1
            cases hnE : numE t' 0 9 with
            | error e' =>
              rw [hnE] at e0 q1
              simp only at e0 q1
              rw [e0] at q
              cases q
              exact q1.symm
            | ok v' =>
              rw [hnE] at e0
              simp only at e0
              rw [e0] at q
              cases q
        · cases x with
          | error e' => cases q
          | ok t' =>
            obtain ⟨q1, q2⟩ := hxo t' rfl
            have e0 : lkE (.ok t') (fun t => decide (0 ≤ t.nm ∧ t.nm ≤ 9)) = match numE t' 0 9 with | .error e => .error e | .ok _ => .ok t' := rfl
            unfold tkF at q1
            cases hnE : numE t' 0 9 with
            | error e' =>
              rw [hnE] at e0
              simp only at e0
              rw [e0] at q
              cases q
            | ok v' =>
              obtain ⟨_, _, _, hv'⟩ := numE_ok hnE
              rw [hnE] at e0 q1
              simp only at e0 q1
              obtain ⟨hv, _⟩ := hok t' e0
              obtain rfl : v = v' := by omega
              rw [e0] at q
              cases q
              exact ⟨q1, (q2.O hF5).tu hn (by omega)⟩
    exact key 3 0 (by omega) _ D.tk w1 hS1 (fun e q => by cases q) (fun t' q => by cases q; exact ⟨hR, hD1⟩) hU1
  · rw [if_pos (by simpa using c)] at h
    refine wm_must_bad (k := 3) h8 hT.2.1 (by omega) (by omega) (fun w' hF he => ⟨fun _ => ?_, fun q => absurd rfl q⟩)
    exact h w' (ZS.err he) hF.U
set_option maxHeartbeats 4000000 in
theorem wm_firstLine {w : Wd} {buf : Nat → Int32} {lim : Nat} {t : Tk} {D : Dr} {Post : Wd → Prop} (hlim : lim ≤ 400) (hby : ∀ i, i < lim → byI (buf i)) (hS : MS w buf lim (.ok t)) (hD : MDr w D) (hn : D.g.n ≤ 6) (h : ∀ w', ZS w' buf lim (firE buf lim t D) → FrU w w' → Post w') : wp_X9_firstLine w Post := by
  obtain ⟨hT, ht, h8⟩ := hS.2 t rfl
  have o1 := ht.1
  have o2 := ht.2.1
  unfold wp_X9_firstLine
  unfold firE at h
  rw [hD.2.2.2.2.2.2.2.2, bI_0]
  refine ⟨fun c => ?_, fun c => ?_⟩
  · rw [if_neg (by rw [c]; decide)] at h
    refine wm_must_ok h8 (by decide) ⟨fun q => absurd q (by decide), fun _ => ?_⟩
    refine wm_goOnX hlim hby (hS.s 12 1 (Or.inr rfl)) (fun w1 hF1 hS1 => ?_)
    have hS1 : MS w1 buf lim (.ok (tokN buf lim t.en)) := hS1
    obtain ⟨_, ht1, _⟩ := hS1.2 _ rfl
    generalize tokN buf lim t.en = t1 at h hS1 ht1
    refine wm_readX (x := .ok t1) (lo := 0) (hi := 1) (b := fun t => decide (0 ≤ t.nm ∧ t.nm ≤ 1)) hlim hby hS1 (fun t' q _ => by cases q; exact num_dec2 (hi := 1) ht1.2.2.2.2 (by omega) (by omega)) (fun v w6 hS6 hF6 hok her => ?_)
    have hU : FrU w (sA w6 17 55 (nI v)) := (((FrU.s w 12 1 (by omega)).tr hF1.U).tr hF6.U).tr (FrU.a _ _ _)
    have e0 : lkE (.ok t1) (fun t => decide (0 ≤ t.nm ∧ t.nm ≤ 1)) = match numE t1 0 1 with | .error e => .error e | .ok _ => .ok t1 := rfl
    refine h _ ?_ hU
    cases hnE : numE t1 0 1 with
    | error e =>
      rw [hnE] at e0
      simp only at e0
      rw [e0] at hS6
      exact ZS.err ((hS6.1 e rfl).of rfl rfl)
    | ok v' =>
      obtain ⟨_, _, _, hv'⟩ := numE_ok hnE
      rw [hnE] at e0
      simp only at e0
      obtain ⟨hv, _⟩ := hok t1 e0
      obtain rfl : v = v' := by omega
      rw [e0] at hS6
      exact ZS.ok (hS6.a _ _) (((hD.hf.O hF1).O hF6).fu hn)
  · rw [if_pos (by simpa using c)] at h
    refine wm_must_bad (k := 3) h8 hT.2.1 (by omega) (by omega) (fun w' hF he => ⟨fun _ => ?_, fun q => absurd rfl q⟩)
    exact h w' (ZS.err he) hF.U
theorem wm_semi {w w' : Wd} {buf : Nat → Int32} {lim : Nat} {x : Except Nat (Tk × Dr)} {Post : Wd → Prop} (hlim : lim ≤ 400) (hby : ∀ i, i < lim → byI (buf i)) (hZ : ZS w' buf lim x) (hU : FrU w w') (h : ∀ w', ZS w' buf lim (semE buf lim x) → FrU w w' → Post w') : (((gI w' 15 6) = 3 → (wp_X9_must w' 1 1 (fun r7 w8 => (r7 = 0 → (Post w8)) ∧ (¬ r7 = 0 → (wp_X9_nextToken w8 (fun w9 => Post w9)))))) ∧ (¬ (gI w' 15 6) = 3 → (wp_X9_must w' 0 1 (fun r6 w6 => (r6 = 0 → (Post w6)) ∧ (¬ r6 = 0 → (wp_X9_nextToken w6 (fun w7 => Post w7))))))) := by
  cases x with
  | error e =>
    have he := hZ.1 e rfl
    have hp := h w' (ZS.err he) hU
    exact ⟨fun _ => wm_must_err he.ne ⟨fun _ => hp, fun q => absurd rfl q⟩, fun _ => wm_must_err he.ne ⟨fun _ => hp, fun q => absurd rfl q⟩⟩
  | ok y =>
    obtain ⟨t, D⟩ := y
    obtain ⟨hS, hD⟩ := hZ.2 t D rfl
    obtain ⟨hT, ht, h8⟩ := hS.2 t rfl
    have o1 := ht.1
    have o2 := ht.2.1
    have o3 := ht.2.2.1
    have hsem : semE buf lim (.ok (t, D)) = if t.kd = 4 then .ok (tokN buf lim t.en, D) else .error (8 * t.st + 1) := rfl
    rw [hT.2.2.2.1]
    refine ⟨fun c => ?_, fun c => ?_⟩
    · have c' : t.kd = 4 := (mK_e o3).2.2.1.mp ((mK_n (j := 3) o3 (by omega)).mp c)
      rw [hsem, if_pos c'] at h
      refine wm_must_ok h8 (by decide) ⟨fun q => absurd q (by decide), fun _ => ?_⟩
      exact wm_nextE hlim hby hT ht h8 (fun w2 hF2 hS2 => h w2 (ZS.ok hS2 (hD.O hF2)) (hU.tr hF2.U))
    · have c' : ¬ t.kd = 4 := fun q => c (by rw [q]; rfl)
      rw [hsem, if_neg c'] at h
      refine wm_must_bad (k := 1) h8 hT.2.1 (by omega) (by omega) (fun w2 hF2 he => ⟨fun _ => ?_, fun q => absurd rfl q⟩)
      exact h w2 (ZS.err he) (hU.tr hF2.U)
theorem wm_statement {w : Wd} {buf : Nat → Int32} {lim : Nat} {t : Tk} {D : Dr} {Post : Wd → Prop} (hlim : lim ≤ 400) (hby : ∀ i, i < lim → byI (buf i)) (hS : MS w buf lim (.ok t)) (hD : MDr w D) (hDk : DOK D) (h : ∀ w', ZS w' buf lim (staE buf lim t D) → FrU w w' → Post w') : wp_X9_statement w Post := by
  have hn := hDk.1.1
  obtain ⟨hT, ht, h8⟩ := hS.2 t rfl
  have o1 := ht.1
  have o2 := ht.2.1
  unfold wp_X9_statement
  unfold staE at h
  refine wm_isWordX hlim hS (by decide) ?_
  rw [bI_0]
  refine ⟨fun c1 => wm_isWordX hlim hS (by decide) ?_, fun c1 => ?_⟩
  · have c1 : isW buf 1 t = false := c1
    rw [if_neg (by rw [c1]; decide)] at h
    rw [bI_0]
    refine ⟨fun c2 => wm_isWordX hlim hS (by decide) ?_, fun c2 => ?_⟩
    · have c2 : isW buf 3 t = false := c2
      rw [if_neg (by rw [c2]; decide)] at h
      rw [bI_0]
      refine ⟨fun c3 => wm_isWordX hlim hS (by decide) ?_, fun c3 => ?_⟩
      · have c3 : isW buf 4 t = false := c3
        rw [if_neg (by rw [c3]; decide)] at h
        rw [bI_0]
        refine ⟨fun c4 => ?_, fun c4 => ?_⟩
        · have c4 : isW buf 5 t = false := c4
          rw [if_neg (by rw [c4]; decide)] at h
          refine wm_must_bad (k := 1) h8 hT.2.1 (by omega) (by omega) (fun w2 hF2 he => ?_)
          have hp := h w2 (ZS.err he) hF2.U
          exact ⟨fun _ => wm_must_err he.ne ⟨fun _ => hp, fun q => absurd rfl q⟩, fun _ => wm_must_err he.ne ⟨fun _ => hp, fun q => absurd rfl q⟩⟩
        · have c4 : ¬ isW buf 5 t = false := c4
          rw [if_pos (by simpa using c4)] at h
          exact wm_firstLine hlim hby hS hD hn (fun w' hZ hU => wm_semi hlim hby hZ hU h)
      · have c3 : ¬ isW buf 4 t = false := c3
        rw [if_pos (by simpa using c3)] at h
        exact wm_tokensLine hlim hby hS hD hn (fun w' hZ hU => wm_semi hlim hby hZ hU h)
    · have c2 : ¬ isW buf 3 t = false := c2
      rw [if_pos (by simpa using c2)] at h
      exact wm_lockLine hlim hby hS hD hDk (fun w' hZ hU => wm_semi hlim hby hZ hU h)
  · have c1 : ¬ isW buf 1 t = false := c1
    rw [if_pos (by simpa using c1)] at h
    exact wm_ladderLine hlim hby hS hD hDk (fun w' hZ hU => wm_semi hlim hby hZ hU h)

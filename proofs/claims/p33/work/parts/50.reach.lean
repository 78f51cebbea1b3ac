/-! the class: what can be reached on a ladder -/
theorem wh_fill {o n : Nat} {w : Wd} {v : Int32} {Post : Wd → Prop} (hn : n < 2 ^ 31) (h : ∀ f : Nat → Int32, (∀ i, i < n → f i = v) → Post (sF w o f)) : wp_J7_fill_53178 o n w v Post := by
  unfold wp_J7_fill_53178
  intro J hJ y1 e1
  subst e1
  have key : ∀ k i, i + k = n → ∀ f : Nat → Int32, (∀ j, j < i → f j = v) → J (nI i) (nI n) (sF w o f) := by
    intro k
    induction k with
    | zero =>
      intro i hi f hf
      obtain rfl : i = n := by omega
      refine hJ _ _ _ ⟨fun _ => h f hf, fun c => ?_⟩
      simp (disch := omega) only [nI_leI] at c
      omega
    | succ k ih =>
      intro i hi f hf
      refine hJ _ _ _ ⟨fun c => ?_, fun _ => ⟨pk_in i n (by omega), fun y e => ?_⟩⟩
      · simp (disch := omega) only [nI_leI] at c
        omega
      · subst e
        rw [nI_1, nI_clamp (by omega), sA_sF]
        refine ih (i + 1) (by omega) _ (fun j hj => ?_)
        by_cases q : j = i
        · subst q
          exact pk_us
        · rw [pk_un q]
          exact hf j (by omega)
  have := key n 0 (by omega) (gA w o) (fun j hj => absurd hj (Nat.not_lt_zero j))
  rw [sF_self] at this
  exact this
/-- all but two rows of scratch -/
def FrE (w w' : Wd) : Prop := (∀ o k, gI w' o k = gI w o k) ∧ (∀ o i, o ≠ 7 → o ≠ 9 → gA w' o i = gA w o i) ∧ w'.2.2 = w.2.2
theorem FrE.rf (w : Wd) : FrE w w := ⟨fun _ _ => rfl, fun _ _ _ _ => rfl, rfl⟩
theorem FrE.tr {a b c : Wd} (h : FrE a b) (g : FrE b c) : FrE a c := ⟨fun o s => (g.1 o s).trans (h.1 o s), fun o i q r => (g.2.1 o i q r).trans (h.2.1 o i q r), g.2.2.trans h.2.2⟩
theorem FrE.s7 (w : Wd) (f : Nat → Int32) : FrE w (sF w 7 f) := ⟨fun _ _ => rfl, fun o i q _ => by rw [gA_sF, if_neg q], rfl⟩
theorem FrE.s9 (w : Wd) (f : Nat → Int32) : FrE w (sF w 9 f) := ⟨fun _ _ => rfl, fun o i _ q => by rw [gA_sF, if_neg q], rfl⟩
theorem FrE.a9 (w : Wd) (j : Nat) (x : Int32) : FrE w (sA w 9 j x) := ⟨fun _ _ => rfl, fun o i _ q => by rw [gA_sA, if_neg (fun c => q c.1)], rfl⟩
theorem FrE.W {w w' : Wd} (h : FrE w w') : FrW w w' := ⟨fun o s _ => h.1 o s, fun o i _ _ q r => h.2.1 o i q r, h.2.2⟩
theorem FrE.VCs {w w' : Wd} (h : FrE w w') (hV : VCs w) : VCs w' := by
  intro j hj
  obtain ⟨cc', z', l', f', ⟨a1, a2, a3, a4, a5, a6⟩, hr⟩ := hV j hj
  exact ⟨cc', z', l', f', ⟨(h.1 _ _).trans a1, (h.1 _ _).trans a2, (h.1 _ _).trans a3, (h.1 _ _).trans a4, a5, fun r hr => (h.2.1 _ _ (by omega) (by omega)).trans (a6 r hr)⟩, hr⟩
/-- the places above K are done -/
def xI (l z m K : Nat) (w : Wd) : Prop := ∃ D : Nat → Nat, (∀ r, r < 299 → gA w 9 r = nI (D r)) ∧ (∀ r, r < 299 → 0 < D r → way l z m (D r - 1) (posN r)) ∧ 1 ≤ D (rankN m) ∧ ∀ r, K ≤ r → r < 299 → 0 < D r → ∀ x, x ∈ nxs l z (posN r) → D r + 1 ≤ D (rankN x)
theorem xI_D {l z m : Nat} (hm : isPos m = true) {D : Nat → Nat} (h : ∀ r, r < 299 → 0 < D r → way l z m (D r - 1) (posN r)) {r : Nat} (hr : r < 299) : D r < 400 := by
  rcases Nat.eq_zero_or_pos (D r) with q | q
  · omega
  · have h1 := way_le (isPos_sp hm).2.1 (h r hr q)
    have := lng_lt (l := l) (z := z) hm
    omega
theorem max_I {a b : Nat} (ha : a < 2 ^ 31) (hb : b < 2 ^ 31) : (if nI a < nI b then nI b else nI a) = nI (max a b) := by
  by_cases q : a < b
  · rw [if_pos (nI_lt q hb), Nat.max_eq_right (by omega)]
  · rw [if_neg (nI_nlt (by omega) (by omega)), Nat.max_eq_left (by omega)]
theorem wh_explore {w : Wd} {m l z : Nat} {Post : Wd → Prop} (hm : isPos m = true) (hl : l < 8192) (hl0 : l.testBit 0 = false) (hz8 : z < 8192) (hz : pop z ≤ 4) (hM : ∀ i, i < 299 → gA w 6 i = nI (posN i)) (h : ∀ w' D, FrE w w' → (∀ r, r < 299 → gA w' 9 r = nI (D r)) → rOK l z m D → Post w') : wp_X5_explore w (nI m) (nI z) (nI l) Post := by
  obtain ⟨m1, m2, m3⟩ := isPos_sp hm
  obtain ⟨r1, r2⟩ := rank_ok hm
  unfold wp_X5_explore
  intro J26 J60 h26 h60
  refine wh_fill (by omega) (fun f0 hf0 => ?_)
  refine wh_rankOf (lt31 m1) ⟨pk_in (rankN m) 299 r1, ?_⟩
  rw [nI_clamp (by omega)]
  have main : ∀ K, K ≤ 299 → ∀ w', FrE w w' → xI l z m K w' → J26 (nI K + (-1)) w' := by
    intro K
    induction K with
    | zero =>
      intro _ w' hF hx
      refine h26 _ _ ⟨fun _ => ?_, fun c => absurd (by decide) c⟩
      obtain ⟨D, d1, d2, d3, d4⟩ := hx
      refine h w' D hF d1 ⟨d2, ?_⟩
      intro k
      induction k with
      | zero =>
        intro x hx
        rw [show x = m from hx]
        exact d3
      | succ k ih =>
        rintro x ⟨u, g1, g2⟩
        have g3 := ih u g1
        obtain ⟨p1, p2, p3, p4⟩ := way_pos hm g1
        obtain ⟨q1, q2⟩ := rank_ok p1
        have := d4 (rankN u) (Nat.zero_le _) q1 (by omega) x (by rw [q2]; exact g2)
        omega
    | succ K ih =>
      intro hK w' hF hx
      have ih' := ih (by omega)
      rw [pk_m1]
      obtain ⟨D, d1, d2, d3, d4⟩ := hx
      have hD := xI_D hm d2 (r := K) (by omega)
      refine h26 _ _ ⟨fun c => absurd c (nI_pos (by omega)), fun _ => ⟨pk_in K 299 (by omega), ?_⟩⟩
      rw [nI_clamp (by omega), d1 K (by omega)]
      refine ⟨fun c y e => ?_, fun c => ⟨pk_in K 299 (by omega), ?_⟩⟩
      · subst e
        rw [le0 (by omega)] at c
        refine ih' w' hF ⟨D, d1, d2, d3, fun r a b c2 => ?_⟩
        rcases Nat.lt_or_ge K r with q | q
        · exact d4 r q b c2
        · obtain rfl : r = K := by omega
          omega
      · rw [le0 (by omega)] at c
        rw [show gA w' 6 K = nI (posN K) from (hF.2.1 6 K (by decide) (by decide)).trans (hM K (by omega))]
        obtain ⟨pp, pr⟩ := pos_ok (r := K) (by omega)
        refine wh_listBehind pp hl hz8 hz (fun B hB => ?_)
        have hlen : (pB l z (posN K) 12 0).length ≤ 12 := by
          rw [pB_s]
          exact pB_12 pp hz (by omega) (by omega)
        have inner : ∀ n i, i + n = (pB l z (posN K) 12 0).length → ∀ w'', FrE w' w'' → (∀ j, gA w'' 7 j = B j) → (∃ D' : Nat → Nat, (∀ r, r < 299 → gA w'' 9 r = nI (D' r)) ∧ (∀ r, r < 299 → 0 < D' r → way l z m (D' r - 1) (posN r)) ∧ (∀ r, K ≤ r → D' r = D r) ∧ (∀ r, D r ≤ D' r) ∧ ∀ j, j < i → D K + 1 ≤ D' (rankN ((pB l z (posN K) 12 0).getD j 0))) → J60 (nI K) (nI (pB l z (posN K) 12 0).length) (nI i) w'' := by
          intro n
          induction n with
          | zero =>
            intro i hi w'' hF2 hB2 ⟨D', e1, e2, e3, e4, e5⟩
            refine h60 _ _ _ _ ⟨fun _ y e => ?_, fun c => ?_⟩
            · subst e
              refine ih' w'' (hF.tr hF2) ⟨D', e1, e2, Nat.le_trans d3 (e4 _), fun r a b c2 x hx => ?_⟩
              rw [e3 r a] at c2 ⊢
              rcases Nat.lt_or_ge K r with q | q
              · exact Nat.le_trans (d4 r q b c2 x hx) (e4 _)
              · obtain rfl : r = K := by omega
                have hx2 := (mem_pB pp hl0).mpr hx
                obtain ⟨j, hj, hjx⟩ := List.getElem_of_mem hx2
                have := e5 j (by omega)
                rw [List.getD_eq_getElem?_getD, List.getElem?_eq_getElem hj, Option.getD_some, hjx] at this
                exact this
            · simp (disch := omega) only [nI_leI] at c
              omega
          | succ n ihn =>
            intro i hi w'' hF2 hB2 ⟨D', e1, e2, e3, e4, e5⟩
            have hil : i < (pB l z (posN K) 12 0).length := by omega
            have hx : (pB l z (posN K) 12 0).getD i 0 ∈ nxs l z (posN K) := by
              rw [← mem_pB pp hl0, List.getD_eq_getElem?_getD, List.getElem?_eq_getElem hil]
              exact List.getElem_mem hil
            obtain ⟨x1, x2, x3⟩ := nxs_pos pp hx
            obtain ⟨x4, x5⟩ := rank_ok x1
            rw [pr] at x3
            generalize hX : (pB l z (posN K) 12 0).getD i 0 = X at hx x1 x2 x3 x4 x5
            have hDx := xI_D hm e2 x4
            refine h60 _ _ _ _ ⟨fun c => ?_, fun _ => ⟨pk_in i 12 (by omega), fun y3 ey3 => ?_⟩⟩
            · simp (disch := omega) only [nI_leI] at c
              omega
            · rw [nI_clamp (by omega), hB2, hB i hil, hX] at ey3
              subst ey3
              rw [nI_clamp (by omega), nI_clamp (by omega), e1 _ x4, e1 K (by omega), e3 K (Nat.le_refl _), nI_1]
              refine ⟨pk_in (rankN X) 299 x4, pk_in K 299 (by omega), fun y4 ey4 => ⟨pk_in (rankN X) 299 x4, fun y5 ey5 => ?_⟩⟩
              rw [max_I (by omega) (by omega)] at ey4
              subst ey4 ey5
              rw [nI_1]
              refine ihn (i + 1) (by omega) _ (hF2.tr (FrE.a9 _ _ _)) (fun j => by rw [gA_sA, if_neg (by omega)]; exact hB2 j) ⟨fun r => if r = rankN X then max (D' (rankN X)) (D K + 1) else D' r, fun r hr => ?_, fun r hr hpos => ?_, fun r hr => ?_, fun r => ?_, fun j hj => ?_⟩
              · rw [gA_sA]
                show _ = nI (if r = rankN X then max (D' (rankN X)) (D K + 1) else D' r)
                by_cases q : r = rankN X
                · rw [if_pos ⟨rfl, q⟩, if_pos q]
                · rw [if_neg (fun c => q c.2), if_neg q]
                  exact e1 r hr
              · have hpos : 0 < (if r = rankN X then max (D' (rankN X)) (D K + 1) else D' r) := hpos
                show way l z m ((if r = rankN X then max (D' (rankN X)) (D K + 1) else D' r) - 1) (posN r)
                by_cases q : r = rankN X
                · rw [if_pos q] at hpos ⊢
                  rcases Nat.lt_or_ge (D' (rankN X)) (D K + 1) with q2 | q2
                  · rw [Nat.max_eq_right (by omega), q, x5]
                    rw [show D K + 1 - 1 = (D K - 1) + 1 by omega]
                    exact ⟨posN K, d2 K (by omega) (by omega), hx⟩
                  · rw [Nat.max_eq_left q2, q]
                    exact e2 _ x4 (by omega)
                · rw [if_neg q] at hpos ⊢
                  exact e2 r hr hpos
              · show (if r = rankN X then max (D' (rankN X)) (D K + 1) else D' r) = D r
                rw [if_neg (by omega)]
                exact e3 r hr
              · show D r ≤ (if r = rankN X then max (D' (rankN X)) (D K + 1) else D' r)
                by_cases q : r = rankN X
                · rw [if_pos q, q]
                  exact Nat.le_trans (e4 _) (Nat.le_max_left _ _)
                · rw [if_neg q]
                  exact e4 r
              · show D K + 1 ≤ (if rankN ((pB l z (posN K) 12 0).getD j 0) = rankN X then max (D' (rankN X)) (D K + 1) else D' (rankN ((pB l z (posN K) 12 0).getD j 0)))
                by_cases q : rankN ((pB l z (posN K) 12 0).getD j 0) = rankN X
                · rw [if_pos q]
                  exact Nat.le_max_right _ _
                · rw [if_neg q]
                  refine e5 j ?_
                  rcases Nat.lt_or_ge j i with q2 | q2
                  · exact q2
                  · obtain rfl : j = i := by omega
                    rw [hX] at q
                    exact absurd rfl q
        exact inner _ 0 (Nat.zero_add _) _ (FrE.s7 _ _) (fun j => by rw [gA_sF, if_pos rfl]) ⟨D, fun r hr => by rw [gA_sF, if_neg (by omega)]; exact d1 r hr, d2, fun _ _ => rfl, fun _ => Nat.le_refl _, fun j hj => absurd hj (Nat.not_lt_zero j)⟩
  have e0 : nI (rankN m) = nI (rankN m + 1) + (-1) := (pk_m1 _).symm
  have hF0 : FrE w (sA (sF w 9 f0) 9 (rankN m) 1) := (FrE.s9 _ _).tr (FrE.a9 _ _ _)
  have hx0 : ∀ r, r < 299 → gA (sA (sF w 9 f0) 9 (rankN m) 1) 9 r = nI (if r = rankN m then 1 else 0) := fun r hr => by
    rw [gA_sA]
    by_cases q : r = rankN m
    · rw [if_pos ⟨rfl, q⟩, if_pos q]
      rfl
    · rw [if_neg (fun c => q c.2), if_neg q, gA_sF, if_pos rfl]
      exact hf0 r hr
  have := main (rankN m + 1) (by omega) _ hF0 ⟨fun r => if r = rankN m then 1 else 0, hx0, fun r hr hpos => ?_, ?_, fun r a b c x hx => ?_⟩
  · rw [← e0] at this
    exact this
  · have hpos : 0 < (if r = rankN m then 1 else 0) := hpos
    show way l z m ((if r = rankN m then 1 else 0) - 1) (posN r)
    by_cases q : r = rankN m
    · rw [if_pos q, q, r2]
      rfl
    · rw [if_neg q] at hpos
      omega
  · show 1 ≤ (if rankN m = rankN m then 1 else 0)
    rw [if_pos rfl]
    exact Nat.le_refl _
  · have c : 0 < (if r = rankN m then 1 else 0) := c
    rw [if_neg (by omega)] at c
    omega
theorem wh_exploreG {w : Wd} {g : Gm} {l : Nat} {Post : Wd → Prop} (hg : g.ok) (hG : GC w g) (hl : l < g.n) (h : ∀ w' D, GC w' g → FrW w w' → (∀ r, r < 299 → gA w' 9 r = nI (D r)) → rOK (g.lk l) (g.sz l) (g.co l) D → Post w') : wp_X0_explore w (nI l) Post := by
  have hl6 : l < 6 := Nat.lt_of_lt_of_le hl hg.1
  obtain ⟨b1, b2, b3, b4, b5, b6, b7, b8, b9, b10⟩ := hg.2 l hl
  obtain ⟨a1, a2, a3, a4, a5⟩ := hG.2.1 l hl
  unfold wp_X0_explore
  rw [nI_clamp (by omega), show gA w (53 + 8 * 0 + 1) l = nI (g.co l) from a4, show gA w (27 + 7 * 1 + 3) l = nI (g.sz l) from a3, show gA w (53 + 8 * 0 + 2) l = nI (g.lk l) from a5]
  refine ⟨pk_in l 6 hl6, pk_in l 6 hl6, pk_in l 6 hl6, ?_⟩
  exact wh_explore (g.pos hg hl) b6 b7 b4 b5 hG.2.2.1 (fun w' D hF hD hr => h w' D (hG.frW hF.W (hF.VCs hG.2.2.2)) hF.W hD hr)
theorem wh_farthest {w : Wd} {l z m : Nat} {D : Nat → Nat} {Post : Int32 → Wd → Prop} (hm : isPos m = true) (hD : ∀ r, r < 299 → gA w 9 r = nI (D r)) (hr : rOK l z m D) (h : Post (nI (lng l z m)) w) : wp_X5_farthest w Post := by
  unfold wp_X5_farthest
  intro J hJ
  have hl := lng_lt (l := l) (z := z) hm
  have key : ∀ k i, i + k = 299 → ∀ M, 1 ≤ M → M ≤ lng l z m + 1 → (∀ r, r < i → D r ≤ M) → J (nI M) (nI i) w := by
    intro k
    induction k with
    | zero =>
      intro i hi M h1 h2 h3
      obtain rfl : i = 299 := by omega
      refine hJ _ _ _ ⟨fun _ => ?_, fun c => absurd (by decide) c⟩
      obtain ⟨r, a, b⟩ := rOK_top hm hr
      have := h3 r a
      rw [show nI M - 1 = nI (M - 1) from pk_sub (b := 1) h1, show M - 1 = lng l z m by omega]
      exact h
    | succ k ih =>
      intro i hi M h1 h2 h3
      have hDi := rOK_le hm hr (r := i) (by omega)
      refine hJ _ _ _ ⟨fun c => ?_, fun _ => ⟨pk_in i 299 (by omega), fun y1 e1 y2 e2 => ?_⟩⟩
      · simp (disch := omega) only [fa_lit, nI_leI] at c
        omega
      · rw [nI_clamp (by omega), hD i (by omega), max_I (by omega) (by omega)] at e1
        subst e1 e2
        rw [nI_1]
        refine ih (i + 1) (by omega) _ (Nat.le_trans h1 (Nat.le_max_left _ _)) (Nat.max_le.mpr ⟨h2, hDi⟩) (fun r hr => ?_)
        rcases Nat.lt_or_ge r i with q | q
        · exact Nat.le_trans (h3 r q) (Nat.le_max_left _ _)
        · obtain rfl : r = i := by omega
          exact Nat.le_max_right _ _
  exact key 299 0 (by omega) 1 (Nat.le_refl _) (by omega) (fun r hr => absurd hr (Nat.not_lt_zero r))
theorem wh_hasReached {w : Wd} {D : Nat → Nat} {i : Nat} {Post : Int32 → Wd → Prop} (hi : i < 299) (hb : D i < 400) (hD : gA w 9 i = nI (D i)) (h : Post (bI (decide (0 < D i))) w) : wp_X5_hasReached w (nI i) Post := by
  unfold wp_X5_hasReached
  rw [nI_clamp (by omega), hD, le0 (by omega)]
  refine ⟨pk_in i 299 hi, fun c => ?_, fun c => ?_⟩
  · rw [decide_eq_false (by omega)] at h
    exact h
  · rw [decide_eq_true (by omega)] at h
    exact h
theorem wh_countPositions {w : Wd} {l z m : Nat} {D : Nat → Nat} {Post : Int32 → Wd → Prop} (hm : isPos m = true) (hD : ∀ r, r < 299 → gA w 9 r = nI (D r)) (hr : rOK l z m D) (h : Post (nI (cntR l z m)) w) : wp_X5_countPositions w Post := by
  unfold wp_X5_countPositions
  intro J hJ
  have hl := lng_lt (l := l) (z := z) hm
  rw [← rOK_cnt hm hr] at h
  have key : ∀ k i, i + k = 299 → J (nI (fb_ct (fun r => decide (0 < D r)) i)) (nI i) w := by
    intro k
    induction k with
    | zero =>
      intro i hi
      obtain rfl : i = 299 := by omega
      exact hJ _ _ _ ⟨fun _ => h, fun c => absurd (by decide) c⟩
    | succ k ih =>
      intro i hi
      have hDi := rOK_le hm hr (r := i) (by omega)
      have ih' := ih (i + 1) (by omega)
      rw [fb_ct_succ] at ih'
      refine hJ _ _ _ ⟨fun c => ?_, fun _ => ?_⟩
      · simp (disch := omega) only [fa_lit, nI_leI] at c
        omega
      · refine wh_hasReached (by omega) (by omega) (hD i (by omega)) ?_
        rw [bI_0]
        refine ⟨fun c y1 e1 y2 e2 => ?_, fun c y1 e1 y2 e2 => ?_⟩
        · rw [if_neg (by rw [c]; decide)] at ih'
          subst e1 e2
          rw [nI_1, nI_p0]
          exact ih'
        · rw [if_pos (by rw [← Bool.not_eq_false]; exact c)] at ih'
          subst e1 e2
          rw [nI_1, nI_1]
          exact ih'
  exact key 299 0 (by omega)
theorem smR_le {l z m : Nat} (hm : isPos m = true) (hz : pop z ≤ 4) : smR l z m ≤ 299 * 12 := by
  unfold smR
  rw [sm_pos (f := fun x => if rchB l z m x = true then val l z x else 0) (fun x hx => if_neg (fun c => by rw [(rch_pos hm c).1] at hx; cases hx))]
  refine fb_sm_bound (fun r hr => ?_)
  show (if rchB l z m (posN r) = true then val l z (posN r) else 0) ≤ 12
  obtain ⟨p1, p2, p3⟩ := isPos_sp (pos_ok hr).1
  have := val_le (l := l) (z := z) p2 p3 hz
  by_cases q : rchB l z m (posN r) = true
  · rw [if_pos q]; exact this
  · rw [if_neg q]; omega
theorem wh_sumOfReached {w : Wd} {g : Gm} {l : Nat} {D : Nat → Nat} {Post : Int32 → Wd → Prop} (hg : g.ok) (hG : GC w g) (hl : l < g.n) (hD : ∀ r, r < 299 → gA w 9 r = nI (D r)) (hr : rOK (g.lk l) (g.sz l) (g.co l) D) (h : ∀ w', GC w' g → FrW w w' → (∀ r, r < 299 → gA w' 9 r = nI (D r)) → Post (nI (smR (g.lk l) (g.sz l) (g.co l))) w') : wp_X0_sumOfReachedValues w (nI l) Post := by
  have hl6 : l < 6 := Nat.lt_of_lt_of_le hl hg.1
  obtain ⟨b1, b2, b3, b4, b5, b6, b7, b8, b9, b10⟩ := hg.2 l hl
  have hm := g.pos hg hl
  have hll := lng_lt (l := g.lk l) (z := g.sz l) hm
  unfold wp_X0_sumOfReachedValues
  intro J hJ
  rw [← rOK_sm hm hr] at h
  have key : ∀ k i, i + k = 299 → ∀ w' f, VC w' l (g.cn l) (g.sz l) (g.lk l) f → GC w' g → FrC w w' → J l (nI (fb_sm (fun r => if 0 < D r then val (g.lk l) (g.sz l) (posN r) else 0) i)) (nI i) w' := by
    intro k
    induction k with
    | zero =>
      intro i hi w' f hV hG' hF
      obtain rfl : i = 299 := by omega
      exact hJ _ _ _ _ (fun _ => ⟨fun _ => h w' hG' hF.W (fun r hr => (hF.2.1 9 r (by omega) (by decide)).trans (hD r hr)), fun c => absurd (by decide) c⟩)
    | succ k ih =>
      intro i hi w' f hV hG' hF
      have hDi := rOK_le hm hr (r := i) (by omega)
      have ih' := ih (i + 1) (by omega)
      rw [fb_sm_succ] at ih'
      refine hJ _ _ _ _ (fun _ => ⟨fun c => ?_, fun _ => ?_⟩)
      · simp (disch := omega) only [fa_lit, nI_leI] at c
        omega
      · refine wh_hasReached (by omega) (by omega) ((hF.2.1 9 i (by omega) (by decide)).trans (hD i (by omega))) ?_
        rw [bI_0]
        refine ⟨fun c y1 e1 => ?_, fun c => ?_⟩
        · have c' := of_decide_eq_false c
          rw [if_neg c'] at ih'
          subst e1
          rw [nI_1]
          exact ih' w' f hV hG' hF
        · have c' : 0 < D i := of_decide_eq_true (by rw [← Bool.not_eq_false]; exact c)
          rw [if_pos c'] at ih'
          refine wh_valueAt (r := i) (by omega) b6 b7 b4 b5 b3 300 w' f (by omega) hV hG'.2.2.1 (fun w2 f2 _ hV2 hF2 => ?_)
          intro y2 e2 y3 e3
          subst e2 e3
          obtain ⟨_, p2, _, _⟩ := way_pos hm (hr.1 i (by omega) c')
          have e : vR (g.cn l) (g.sz l) (g.lk l) i = val (g.lk l) (g.sz l) (posN i) := by
            unfold vR
            rw [if_neg (by omega)]
          rw [e, nI_1, nI_add]
          exact ih' w2 f2 hV2 (hG'.fr (hF2.C hl6) (VCs.one hG'.2.2.2 hF2 hV2 b3 b4 b5 b6 b7)) (hF.tr (hF2.C hl6))
  refine wh_valuesOf hg hG hl (fun w1 f hV hG1 hF1 => ?_)
  exact key 299 0 (by omega) w1 f hV hG1 hF1

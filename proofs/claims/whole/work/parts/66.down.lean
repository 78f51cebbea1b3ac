/-! the model: what can be reached on a ladder -/
/-- only the marks changed -/
def FrK (w w' : Wd) : Prop := (∀ o k, gI w' o k = gI w o k) ∧ (∀ o i, o ≠ 24 → gA w' o i = gA w o i) ∧ (∀ o i, gL w' o i = gL w o i)
theorem FrK.rf (w : Wd) : FrK w w := ⟨fun _ _ => rfl, fun _ _ _ => rfl, fun _ _ => rfl⟩
theorem FrK.tr {a b c : Wd} (h : FrK a b) (g : FrK b c) : FrK a c := ⟨fun o s => (g.1 o s).trans (h.1 o s), fun o i q => (g.2.1 o i q).trans (h.2.1 o i q), fun o i => (g.2.2 o i).trans (h.2.2 o i)⟩
theorem FrK.s (w : Wd) (i : Nat) (x : Int32) : FrK w (sA w 24 i x) := ⟨fun _ _ => rfl, fun o j q => by rw [gA_sA, if_neg (fun c => q c.1)], fun _ _ => rfl⟩
set_option maxHeartbeats 4000000 in
theorem wm_marks {w : Wd} {g : Gm} {l m : Nat} {Post : Wd → Prop} (hg : g.ok) (hG : LG w g) (hl : l < g.n) (hm : m < 2 ^ (g.top l + 1)) (h0 : m.testBit 0 = false) (hp : pop m ≤ 3) (h : ∀ w', FrK w w' → (∀ x, x ∈ nxs (g.lk l) (g.sz l) m → gA w' 24 x = 1) → (∀ x, x ∉ nxs (g.lk l) (g.sz l) m → gA w' 24 x = gA w 24 x) → Post w') : wp_X9_marks w (nI l) (nI m) Post := by
  obtain ⟨b1, b2, b3, b4, b5, b6, b7, b8, b9, b10⟩ := hg.2 l hl
  have hl6 : l < 6 := Nat.lt_of_lt_of_le hl hg.1
  have hm13 := pos_top hg hl hm
  have hpm : isPos m = true := isPos_of hm13 h0 hp
  have hmem : ∀ x, x ∈ nA (g.lk l) (g.sz l) m (g.top l) ↔ x ∈ nxs (g.lk l) (g.sz l) m := fun x => mem_nA hm h0 b2
  unfold wp_X9_marks
  intro J2 J15 h2 h15
  have outer : ∀ k, k ≤ g.top l → ∀ P w', P ++ nH (g.lk l) (g.sz l) m (g.top l) k = nA (g.lk l) (g.sz l) m (g.top l) → FrK w w' → (∀ x, x ∈ P → gA w' 24 x = 1) → (∀ x, x ∉ P → gA w' 24 x = gA w 24 x) → J2 (nI (g.top l + 1 - k)) w' := by
    intro k
    induction k with
    | zero =>
      intro _ P w' hP hF hy hn
      have hP' : P = nA (g.lk l) (g.sz l) m (g.top l) := by rw [← hP]; simp [nH]
      refine h2 _ _ (wm_of (k := 0) hl6 (by omega) ?_)
      rw [((hG.fr (fun i => hF.2.1 18 i (by decide))).2 l hl).1]
      refine ⟨fun _ => h w' hF (fun x hx => hy x (by rw [hP']; exact (hmem x).mpr hx)) (fun x hx => hn x (fun q => hx ((hmem x).mp (by rw [← hP']; exact q)))), fun c => ?_⟩
      simp (disch := omega) only [nI_ltI] at c
      omega
    | succ k ih =>
      intro hk P w' hP hF hy hn
      have ih' := ih (by omega)
      rw [show g.top l + 1 - k = g.top l - k + 1 by omega] at ih'
      rw [show g.top l + 1 - (k + 1) = g.top l - k by omega]
      rw [nH] at hP
      generalize hh : g.top l - k = hi at ih' hP
      have inner : ∀ k', k' ≤ 12 → ∀ P w', P ++ (nS (g.lk l) (g.sz l) m hi k' ++ nH (g.lk l) (g.sz l) m (g.top l) k) = nA (g.lk l) (g.sz l) m (g.top l) → FrK w w' → (∀ x, x ∈ P → gA w' 24 x = 1) → (∀ x, x ∉ P → gA w' 24 x = gA w 24 x) → J15 (nI hi) (nI (13 - k')) w' := by
        intro k'
        induction k' with
        | zero =>
          intro _ P w' hP hF hy hn
          refine h15 _ _ _ ⟨fun _ y e => ?_, fun c => absurd (by decide) c⟩
          subst e
          rw [nI_1]
          exact ih' P w' (by simpa [nS] using hP) hF hy hn
        | succ k' ihk =>
          intro hk' P w' hP hF hy hn
          obtain ⟨a1, a2, a3, a4, a5⟩ := (hG.fr (fun i => hF.2.1 18 i (by decide))).2 l hl
          have ihk' := ihk (by omega)
          rw [show 13 - k' = 12 - k' + 1 by omega] at ihk'
          rw [show 13 - (k' + 1) = 12 - k' by omega]
          have hs1 : 1 ≤ 12 - k' := by omega
          have hs2 : 12 - k' ≤ 12 := by omega
          rw [nS] at hP
          generalize hs : 12 - k' = s at ihk' hP hs1 hs2
          refine h15 _ _ _ ⟨fun c => ?_, fun _ => wh_has (lt31 hm13) (by omega) ?_⟩
          · simp (disch := omega) only [fa_lit, nI_ltI] at c
            omega
          rw [bI_0]
          refine ⟨fun c y e => ?_, fun c => ?_⟩
          · subst e
            rw [nI_1]
            rw [nS_nil c, if_neg (fun q => by rw [(okS_sp q).1] at c; cases c)] at hP
            exact ih' P w' hP hF hy hn
          · have hbit : m.testBit hi = true := by simpa using c
            refine wm_of (k := 4) hl6 (by omega) ?_
            rw [a5]
            refine wh_has (lt31 b4) (by omega) ?_
            rw [bI_0]
            have skip : ¬ okS (g.lk l) (g.sz l) m hi s = true → ∀ y, y = nI s + 1 → J15 (nI hi) y w' := by
              intro hno y e
              subst e
              rw [nI_1]
              rw [if_neg hno] at hP
              exact ihk' P w' hP hF hy hn
            refine ⟨fun c2 => skip (fun q => by rw [(okS_sp q).2.1] at c2; cases c2), fun c2 => ?_⟩
            have hzb : (g.sz l).testBit s = true := by simpa using c2
            refine wm_behind hl6 a4 b6 b7 hm13 h0 (by omega) ⟨hs1, by omega⟩ hbit ?_
            obtain ⟨bo, bn⟩ := bhM_ok (l := g.lk l) (z := g.sz l) (m := m) (h := hi) (s := s) hbit hzb
            by_cases hok : okS (g.lk l) (g.sz l) m hi s = true
            · rw [bo hok]
              have hx : nx m hi s ∈ nxs (g.lk l) (g.sz l) m := mem_nxs.mpr ⟨hi, s, by omega, hs1, hs2, hok, rfl⟩
              have x1 := (isPos_sp (nxs_pos hpm hx).1).1
              rw [if_pos hok] at hP
              generalize hX : nx m hi s = X at hx x1 hP
              refine ⟨fun c3 => absurd c3 (n1_ne (by omega)), fun _ => ⟨pk_in X 8192 x1, fun y5 e5 => ?_⟩⟩
              subst e5
              rw [nI_1, nI_clamp (by omega), nar1]
              refine ihk' (P ++ [X]) _ (by rw [← hP]; simp) (hF.tr (FrK.s _ _ _)) (fun x hx2 => ?_) (fun x hx2 => ?_)
              · rw [gA_sA]
                by_cases q : x = X
                · rw [if_pos ⟨rfl, q⟩]
                · rw [if_neg (fun c => q c.2)]
                  rcases List.mem_append.mp hx2 with q2 | q2
                  · exact hy x q2
                  · exact absurd (List.mem_singleton.mp q2) q
              · rw [gA_sA, if_neg (fun c => hx2 (List.mem_append_right _ (List.mem_singleton.mpr c.2)))]
                exact hn x (fun q => hx2 (List.mem_append_left _ q))
            · rw [bn hok]
              exact ⟨fun _ => skip hok, fun c3 => absurd rfl c3⟩
      refine h2 _ _ (wm_of (k := 0) hl6 (by omega) ?_)
      rw [((hG.fr (fun i => hF.2.1 18 i (by decide))).2 l hl).1]
      refine ⟨fun c => ?_, fun _ => inner 12 (by omega) P w' hP hF hy hn⟩
      simp (disch := omega) only [nI_ltI] at c
      omega
  have := outer (g.top l) (Nat.le_refl _) [] w (by simp [nA]) (FrK.rf w) (fun x hx => by cases hx) (fun _ _ => rfl)
  rw [show g.top l + 1 - g.top l = 1 by omega] at this
  exact this
theorem cntR_eq {l z m : Nat} (hm : isPos m = true) : cntR l z m = fb_ct (fun x => rchB l z m x) (m + 1) := by
  have h1 := (isPos_sp hm).1
  have := fb_ct_split (fun x => rchB l z m x) (m + 1) (8192 - (m + 1))
  rw [show m + 1 + (8192 - (m + 1)) = 8192 by omega] at this
  have h0 : fb_ct (fun k => rchB l z m (m + 1 + k)) (8192 - (m + 1)) = 0 := fb_ct_zero.mpr (fun k hk => by
    show rchB l z m (m + 1 + k) = false
    cases q : rchB l z m (m + 1 + k)
    · rfl
    · obtain ⟨j, hj⟩ := rch_iff.mp q
      have := (way_pos hm hj).2.2.2
      omega)
  unfold cntR
  omega
theorem smR_eq {l z m : Nat} (hm : isPos m = true) : smR l z m = fb_sm (fun x => if rchB l z m x = true then val l z x else 0) (m + 1) := by
  have h1 := (isPos_sp hm).1
  have := fb_sm_split (fun x => if rchB l z m x = true then val l z x else 0) (m + 1) (8192 - (m + 1))
  rw [show m + 1 + (8192 - (m + 1)) = 8192 by omega] at this
  have h0 : fb_sm (fun k => if rchB l z m (m + 1 + k) = true then val l z (m + 1 + k) else 0) (8192 - (m + 1)) = 0 := by
    rw [fb_sm_cong (g := fun _ => 0) (fun k hk => if_neg (fun q => by
      obtain ⟨j, hj⟩ := rch_iff.mp q
      have := (way_pos hm hj).2.2.2
      omega)), fb_sm_const, Nat.mul_zero]
  unfold smR
  omega
theorem cntR_le (l z m : Nat) : cntR l z m ≤ 8192 := fb_ct_le _ _
/-- one more set of the model's is done -/
def dI (l z m K : Nat) (w : Wd) : Prop := ∃ c : Nat → Bool, (∀ x, x ≤ m → gA w 24 x = bI (c x)) ∧ (∀ x, x ≤ m → c x = true → rchB l z m x = true) ∧ c m = true ∧ (∀ y, K ≤ y → y ≤ m → rchB l z m y = true → ∀ x, x ∈ nxs l z y → c x = true) ∧ (∃ a, gI w 15 21 = nI a ∧ a + fb_ct (fun x => rchB l z m x) K = cntR l z m) ∧ ∃ a, gL w 15 22 = lN a ∧ a + fb_sm (fun x => if rchB l z m x = true then val l z x else 0) K = smR l z m
set_option maxHeartbeats 4000000 in
theorem wm_goesDown {w : Wd} {g : Gm} {l : Nat} {Post : Wd → Prop} (hg : g.ok) (hG : LG w g) (hl : l < g.n) (h : ∀ w', FrM w w' → gI w' 15 21 = nI (cntR (g.lk l) (g.sz l) (g.co l)) → gL w' 15 22 = lN (smR (g.lk l) (g.sz l) (g.co l)) → Post w') : wp_X9_goesDown w (nI l) Post := by
  obtain ⟨b1, b2, b3, b4, b5, b6, b7, b8, b9, b10⟩ := hg.2 l hl
  have hl6 : l < 6 := Nat.lt_of_lt_of_le hl hg.1
  have hm := g.pos hg hl
  have hm13 := g.co13 hg hl
  have hcl := cntR_le (g.lk l) (g.sz l) (g.co l)
  have hsl := smR_le (l := g.lk l) (z := g.sz l) hm b5
  unfold wp_X9_goesDown
  intro J14 J53 h14 h53
  refine wm_lays hg hG hl (fun w1 hF1 hL => wm_of (k := 2) hl6 (by omega) ?_)
  rw [((hG.fr hF1.e18).2 l hl).2.2.1]
  have main : ∀ K, K ≤ g.co l + 1 → ∀ w', FrM w w' → (∀ i, gA w' 22 i = gA w1 22 i) → dI (g.lk l) (g.sz l) (g.co l) K w' → J53 (nI K + (-1)) w' := by
    intro K
    induction K with
    | zero =>
      intro _ w' hF h22 hd
      obtain ⟨c, d1, d2, d3, d4, ⟨a, e1, e2⟩, a', e3, e4⟩ := hd
      refine h53 _ _ ⟨fun _ => h w' hF ?_ ?_, fun c => absurd (by decide) c⟩
      · rw [e1]
        exact congrArg nI (by rw [← e2]; rfl)
      · rw [e3]
        exact congrArg lN (by rw [← e4]; rfl)
    | succ K ih =>
      intro hK w' hF h22 hd
      obtain ⟨c, d1, d2, d3, d4, ⟨a, e1, e2⟩, a', e3, e4⟩ := hd
      have ih' := ih (by omega)
      rw [pk_m1]
      rw [fb_ct_succ] at e2
      rw [fb_sm_succ] at e4
      have hcK : c K = rchB (g.lk l) (g.sz l) (g.co l) K := by
        cases q : rchB (g.lk l) (g.sz l) (g.co l) K
        · cases q2 : c K
          · rfl
          · rw [d2 K (by omega) q2] at q
            cases q
        · obtain ⟨k, hk⟩ := rch_iff.mp q
          cases k with
          | zero =>
            rw [show K = g.co l from hk]
            exact d3
          | succ k =>
            obtain ⟨u, u1, u2⟩ := hk
            obtain ⟨p1, p2, p3, p4⟩ := way_pos hm u1
            have := (nxs_lt (isPos_sp p1).2.1 u2).1
            exact d4 u (by omega) p4 (rch_iff.mpr ⟨k, u1⟩) K u2
      refine h53 _ _ ⟨fun c => absurd c (nI_pos (by omega)), fun _ => ⟨pk_in K 8192 (by omega), ?_⟩⟩
      rw [nI_clamp (by omega), d1 K (by omega), hcK, bI_0]
      refine ⟨fun q y e => ?_, fun q y3 ey3 => ⟨pk_in K 8192 (by omega), fun y4 ey4 => ?_⟩⟩
      · subst e
        rw [q] at e2 e4
        refine ih' w' hF h22 ⟨c, d1, d2, d3, fun y h1 h2 h3 x hx => ?_, ⟨a, e1, by simpa using e2⟩, a', e3, by simpa using e4⟩
        rcases Nat.lt_or_ge K y with q2 | q2
        · exact d4 y q2 h2 h3 x hx
        · obtain rfl : y = K := by omega
          rw [q] at h3
          cases h3
      · have hb : rchB (g.lk l) (g.sz l) (g.co l) K = true := by simpa using q
        rw [if_pos hb] at e2 e4
        obtain ⟨k, hk⟩ := rch_iff.mp hb
        obtain ⟨p1, p2, p3, p4⟩ := way_pos hm hk
        obtain ⟨x1, x2, x3⟩ := isPos_sp p1
        have hKT : K < 2 ^ (g.top l + 1) := by omega
        rw [e1, nI_1] at ey3
        subst ey3
        rw [show gL (sI w' 15 21 (nI (a + 1))) 15 22 = lN a' from e3, show gA (sI w' 15 21 (nI (a + 1))) 22 K = nI (val (g.lk l) (g.sz l) K) from (h22 K).trans (hL K hKT x2 (by omega)).1, nI_l (by have := val_le (l := g.lk l) (z := g.sz l) x2 x3 b5; omega), lN_add] at ey4
        subst ey4
        have hFa : FrM w' (sL (sI w' 15 21 (nI (a + 1))) 15 22 (lN (a' + val (g.lk l) (g.sz l) K))) := ⟨fun o s q => by rw [gI_sL, gI_sI, if_neg (by omega)], fun _ _ _ _ _ => rfl⟩
        refine wm_marks hg (hG.fr (fun i => (hF.tr hFa).e18 i)) hl hKT x2 x3 (fun w3 hF3 hy hn y5 e5 => ?_)
        subst e5
        refine ih' w3 ((hF.tr hFa).tr ⟨fun o s _ => hF3.1 o s, fun o i _ _ q => hF3.2.1 o i q⟩) (fun i => (hF3.2.1 22 i (by decide)).trans (h22 i)) ⟨fun x => @decide (c x = true ∨ x ∈ nxs (g.lk l) (g.sz l) K) (Classical.propDecidable _), fun x hx => ?_, fun x hx hc => ?_, ?_, fun y h1 h2 h3 x hx => ?_, ⟨a + 1, ?_, by omega⟩, a' + val (g.lk l) (g.sz l) K, ?_, by omega⟩
        · show gA w3 24 x = bI (@decide (c x = true ∨ x ∈ nxs (g.lk l) (g.sz l) K) (Classical.propDecidable _))
          by_cases q : x ∈ nxs (g.lk l) (g.sz l) K
          · rw [hy x q, @decide_eq_true _ (Classical.propDecidable _) (Or.inr q)]
            rfl
          · rw [hn x q]
            show gA w' 24 x = _
            rw [d1 x hx]
            cases q2 : c x
            · rw [@decide_eq_false _ (Classical.propDecidable _) (fun q3 => q3.elim (by decide) q)]
            · rw [@decide_eq_true _ (Classical.propDecidable _) (Or.inl rfl)]
        · have hc := @of_decide_eq_true _ (Classical.propDecidable _) hc
          rcases hc with hc | hc
          · exact d2 x hx hc
          · exact rch_iff.mpr ⟨k + 1, K, hk, hc⟩
        · exact @decide_eq_true _ (Classical.propDecidable _) (Or.inl d3)
        · refine @decide_eq_true _ (Classical.propDecidable _) ?_
          rcases Nat.lt_or_ge K y with q2 | q2
          · exact Or.inl (d4 y q2 h2 h3 x hx)
          · obtain rfl : y = K := by omega
            exact Or.inr hx
        · rw [hF3.1, gI_sL, gI_sI, if_pos ⟨rfl, rfl⟩]
        · rw [hF3.2.2, gL_sL, if_pos ⟨rfl, rfl⟩]
  have first : ∀ q i, i + q = g.co l + 1 → ∀ w', FrM w w' → (∀ j, gA w' 22 j = gA w1 22 j) → (∀ x, x < i → gA w' 24 x = bI (decide (x = g.co l))) → J14 (nI (g.co l)) (nI i) w' := by
    intro q
    induction q with
    | zero =>
      intro i hi w' hF h22 hv
      obtain rfl : i = g.co l + 1 := by omega
      refine h14 _ _ _ ⟨fun _ => ?_, fun c => ?_⟩
      · have hFa : FrM w' (sL (sI w' 15 21 0) 15 22 0) := ⟨fun o s q => by rw [gI_sL, gI_sI, if_neg (by omega)], fun _ _ _ _ _ => rfl⟩
        have := main (g.co l + 1) (Nat.le_refl _) _ (hF.tr hFa) (fun j => h22 j) ⟨fun x => decide (x = g.co l), fun x hx => hv x (by omega), fun x hx hc => ?_, decide_eq_true rfl, fun y h1 h2 _ _ _ => absurd h1 (by omega), ⟨0, ?_, ?_⟩, 0, ?_, ?_⟩
        · rw [pk_m1] at this
          exact this
        · have hc : x = g.co l := of_decide_eq_true hc
          exact rch_iff.mpr ⟨0, hc⟩
        · rw [gI_sL, gI_sI, if_pos ⟨rfl, rfl⟩]
          rfl
        · rw [Nat.zero_add, cntR_eq hm]
        · rw [gL_sL, if_pos ⟨rfl, rfl⟩]
          rfl
        · rw [Nat.zero_add, smR_eq hm]
      · simp (disch := omega) only [nI_ltI] at c
        omega
    | succ q ih =>
      intro i hi w' hF h22 hv
      refine h14 _ _ _ ⟨fun c => ?_, fun _ => ⟨fun c => ⟨pk_in i 8192 (by omega), fun y e => ?_⟩, fun c => ⟨pk_in i 8192 (by omega), fun y e => ?_⟩⟩⟩
      · simp (disch := omega) only [nI_ltI] at c
        omega
      · subst e
        have c' := nI_inj (by omega) (by omega) c
        rw [nI_1, nI_clamp (by omega), nar1]
        refine ih (i + 1) (by omega) _ (hF.tr ⟨fun _ _ _ => rfl, fun o j _ _ q => by rw [gA_sA, if_neg (fun c => q c.1)]⟩) (fun j => by rw [gA_sA, if_neg (by omega)]; exact h22 j) (fun x hx => ?_)
        rw [gA_sA]
        by_cases q : x = i
        · rw [if_pos ⟨rfl, q⟩, decide_eq_true (q.trans c')]
          rfl
        · rw [if_neg (fun c => q c.2)]
          exact hv x (by omega)
      · subst e
        rw [nI_1, nI_clamp (by omega), nar0]
        refine ih (i + 1) (by omega) _ (hF.tr ⟨fun _ _ _ => rfl, fun o j _ _ q => by rw [gA_sA, if_neg (fun c => q c.1)]⟩) (fun j => by rw [gA_sA, if_neg (by omega)]; exact h22 j) (fun x hx => ?_)
        rw [gA_sA]
        by_cases q : x = i
        · rw [if_pos ⟨rfl, q⟩, decide_eq_false (fun e => c (by rw [← q, e]))]
          rfl
        · rw [if_neg (fun c => q c.2)]
          exact hv x (by omega)
  exact first (g.co l + 1) 0 (Nat.zero_add _) w1 hF1.M (fun _ => rfl) (fun x hx => absurd hx (Nat.not_lt_zero x))

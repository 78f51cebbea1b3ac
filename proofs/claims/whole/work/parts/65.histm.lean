/-! the model: a step, a pass; what can be undone, what is saved -/
theorem tok0 (t : Nat) : 43 + (6 * nI t) = nI (43 + 6 * t) := by
  rw [show 43 + (6 * nI t) = nI 43 + (nI 6 * nI t) from rfl, pk_mul, nI_add]
theorem wm_at {w : Wd} {x : Int32} {Post : Int32 → Wd → Prop} (h : Post (1 + (7 * x)) w) : wp_X9_at w x Post := h
theorem wm_steps {w : Wd} {b : Nat} {g : Gm} {r : Rs} {l h s : Nat} {Post : Wd → Prop} (hg : g.ok) (hr : r.ok b g.n) (hb : b < 2 ^ 30) (hT : TD w 18 0 g r) (hc : inC g r (l, h, s)) (hp : ∀ w', TD w' 18 0 (stepP g r l h s).1 (stepP g r l h s).2 → FrA w w' → Post w') : wp_X9_steps w (nI l) (nI h) (nI s) Post := by
  have hn := hg.1
  obtain ⟨c1, c2, c3, c4, c5, c6⟩ := id hc
  have c1 : l < g.n := c1
  have c2 : 1 ≤ h := c2
  have c3 : h ≤ g.top l := c3
  have c4 : 1 ≤ s := c4
  have c5 : s ≤ 12 := c5
  have hl6 : l < 6 := by omega
  obtain ⟨b1, b2, b3, b4, b5, b6, b7, b8, b9, b10⟩ := hg.2 l c1
  have hco := g.co13 hg c1
  have hok : okS (g.lk l) (g.sz l) (g.co l) h s = true := (alB_ok c6).1
  obtain ⟨k1, k2, k3, k4, k5⟩ := okS_sp hok
  have ht := hr.1
  obtain ⟨_, h3, h4, _⟩ := hT.z
  unfold wp_X9_steps
  intro y1 e1 y2 e2
  rw [h4, tok0] at e1
  subst e1
  rw [show nI (43 + 6 * r.tu) + 3 = nI (43 + 6 * r.tu + (3 + 0)) from nI_pL _ 3] at e2
  subst e2
  rw [nI_clamp (show 43 + 6 * r.tu + (3 + 0) < 2 ^ 31 by omega), (h3 r.tu (by omega) 0 (by omega)).2]
  refine ⟨pk_in (43 + 6 * r.tu + (3 + 0)) 140 (by omega), fun y3 e3 => ⟨pk_in (43 + 6 * r.tu + (3 + 0)) 140 (by omega), fun y4 e4 => ?_⟩⟩
  have hT1 : TD (sA w 18 (43 + 6 * r.tu + (3 + 0)) y3) 18 0 g (r.act 0 1) := hT.uct hn ht (by omega) e3
  rw [show nI (43 + 6 * r.tu) + 4 = nI (43 + 6 * r.tu + (3 + 1)) from nI_pL _ 4] at e4
  subst e4
  rw [nI_clamp (show 43 + 6 * r.tu + (3 + 1) < 2 ^ 31 by omega), (hT1.z.2.1 r.tu (by omega) 1 (by omega)).2]
  refine ⟨pk_in (43 + 6 * r.tu + (3 + 1)) 140 (by omega), fun y5 e5 => ⟨pk_in (43 + 6 * r.tu + (3 + 1)) 140 (by omega), ?_⟩⟩
  have hT2 : TD (sA (sA w 18 (43 + 6 * r.tu + (3 + 0)) y3) 18 (43 + 6 * r.tu + (3 + 1)) y5) 18 0 g ((r.act 0 1).act 1 (nI s)) := hT1.uct (r := r.act 0 1) hn ht (by omega) e5
  obtain ⟨a1, a2, a3, a4, a5⟩ := hT2.lg.2 l c1
  refine wm_of (k := 2) hl6 (by omega) ?_
  rw [a3]
  refine wm_behind hl6 a4 b6 b7 hco b9 (by omega) ⟨c4, by omega⟩ k1 ?_
  rw [(bhM_ok (l := g.lk l) (z := g.sz l) k1 k2).1 hok]
  refine wm_at ?_
  rw [show 1 + (7 * nI l) + 2 = nI (1 + 7 * l + 2) from la_ix l 2, nI_clamp (by omega)]
  refine ⟨pk_in (1 + 7 * l + 2) 140 (by omega), ?_⟩
  have hT3 := hT2.uco hn c1 (v := nx (g.co l) h s)
  have hg3 : (g.sco l (nx (g.co l) h s)).ok := by
    refine ⟨hn, fun k hk => ?_⟩
    obtain ⟨d1, d2, d3, d4, d5, d6, d7, d8, d9, d10⟩ := hg.2 k hk
    refine ⟨d1, d2, d3, d4, d5, d6, d7, ?_, ?_, ?_⟩
    · show (if k = l then nx (g.co l) h s else g.co k) < 2 ^ (g.top k + 1)
      by_cases q : k = l
      · rw [if_pos q, q]
        exact Nat.lt_trans (nx_lt hok (by omega) b9) b8
      · rw [if_neg q]
        exact d8
    · show (if k = l then nx (g.co l) h s else g.co k).testBit 0 = false
      by_cases q : k = l
      · rw [if_pos q]
        exact nx_0 _ _ _
      · rw [if_neg q]
        exact d9
    · show pop (if k = l then nx (g.co l) h s else g.co k) ≤ g.cn k
      by_cases q : k = l
      · rw [if_pos q, q]
        exact Nat.le_trans (pop_nx hok (by omega) (by omega) b9) b10
      · rw [if_neg q]
        exact d10
  refine wm_acts hg3 (b := b) hr.act_ok.act_ok hb hT3 (fun w4 hT4 hF4 => ?_)
  exact hp w4 hT4 ((((FrA.s _ _ _).tr (FrA.s _ _ _)).tr (FrA.s _ _ _)).tr hF4)
theorem wm_passes {w : Wd} {b : Nat} {g : Gm} {r : Rs} {Post : Wd → Prop} (hg : g.ok) (hr : r.ok b g.n) (hb : b < 2 ^ 30) (hT : TD w 18 0 g r) (hp : ∀ w', TD w' 18 0 g (passP g r).2 → FrA w w' → Post w') : wp_X9_passes w Post := by
  have hn := hg.1
  have ht := hr.1
  obtain ⟨_, h3, h4, _⟩ := hT.z
  unfold wp_X9_passes
  intro y1 e1
  rw [h4, tok0, show nI (43 + 6 * r.tu) + 5 = nI (43 + 6 * r.tu + (3 + 2)) from nI_pL _ 5] at e1
  subst e1
  rw [nI_clamp (show 43 + 6 * r.tu + (3 + 2) < 2 ^ 31 by omega), (h3 r.tu (by omega) 2 (by omega)).2]
  refine ⟨pk_in (43 + 6 * r.tu + (3 + 2)) 140 (by omega), fun y3 e3 => ⟨pk_in (43 + 6 * r.tu + (3 + 2)) 140 (by omega), ?_⟩⟩
  have hT1 : TD (sA w 18 (43 + 6 * r.tu + (3 + 2)) y3) 18 0 g (r.act 2 1) := hT.uct hn ht (by omega) e3
  refine wm_acts hg (b := b) hr.act_ok hb hT1 (fun w4 hT4 hF4 => ?_)
  exact hp w4 hT4 ((FrA.s _ _ _).tr hF4)
theorem TD.cp {w w' : Wd} {o b o' b' : Nat} {g : Gm} {r : Rs} (h : TD w o b g r) (hn : g.n ≤ 6) (e : ∀ i, i < 140 → gA w' o' (b' + i) = gA w o (b + i)) : TD w' o' b' g r := by
  obtain ⟨h1, h2, h3, h4, h5, h6, h7, h8⟩ := h
  refine ⟨(e 0 (by omega)).trans h1, fun l hl => ?_, fun p hp k hk => ?_, (e 55 (by omega)).trans h4, (e 56 (by omega)).trans h5, (e 57 (by omega)).trans h6, fun hb => ⟨(e 58 (by omega)).trans (h7 hb).1, (e 59 (by omega)).trans (h7 hb).2⟩, fun i hi ha => (e _ (by omega)).trans (h8 i hi ha)⟩
  · obtain ⟨a1, a2, a3, a4, a5, a6, a7⟩ := h2 l hl
    exact ⟨(e _ (by omega)).trans a1, (e _ (by omega)).trans a2, (e _ (by omega)).trans a3, (e _ (by omega)).trans a4, (e _ (by omega)).trans a5, (e _ (by omega)).trans a6, (e _ (by omega)).trans a7⟩
  · exact ⟨(e _ (by omega)).trans (h3 p hp k hk).1, (e _ (by omega)).trans (h3 p hp k hk).2⟩
theorem cp_ix (a i : Nat) : (140 * nI a) + nI i = nI (140 * a + i) := by
  rw [show (140 * nI a) + nI i = (nI 140 * nI a) + nI i from rfl, pk_mul, nI_add]
theorem wm_copy {o n o' n' : Nat} {w : Wd} {a b : Nat} {Post : Wd → Prop} (ha : 140 * a + 140 ≤ n) (hb : 140 * b + 140 ≤ n') (hn : n < 2 ^ 20) (hn' : n' < 2 ^ 20) (hd : o ≠ o' ∨ a ≠ b) (h : ∀ w', (∀ i, i < 140 → gA w' o' (140 * b + i) = gA w o (140 * a + i)) → (∀ u j, ¬ (u = o' ∧ 140 * b ≤ j ∧ j < 140 * b + 140) → gA w' u j = gA w u j) → (∀ u j, gI w' u j = gI w u j) → Post w') : wp_X9_copy o n o' n' w (nI a) (nI b) Post := by
  unfold wp_X9_copy
  intro J hJ
  have key : ∀ k i, i + k = 140 → ∀ w', (∀ j, j < i → gA w' o' (140 * b + j) = gA w o (140 * a + j)) → (∀ u j, ¬ (u = o' ∧ 140 * b ≤ j ∧ j < 140 * b + 140) → gA w' u j = gA w u j) → (∀ u j, gI w' u j = gI w u j) → J (nI i) w' := by
    intro k
    induction k with
    | zero =>
      intro i hi w' h1 h2 h3
      obtain rfl : i = 140 := by omega
      exact hJ _ _ ⟨fun _ => h w' h1 h2 h3, fun c => absurd (by decide) c⟩
    | succ k ih =>
      intro i hi w' h1 h2 h3
      refine hJ _ _ ⟨fun c => ?_, fun _ => ?_⟩
      · simp (disch := omega) only [fa_lit, nI_leI] at c
        omega
      · rw [cp_ix, cp_ix, nI_clamp (by omega), nI_clamp (by omega)]
        refine ⟨pk_in (140 * a + i) n (by omega), fun y1 e1 => ⟨pk_in (140 * b + i) n' (by omega), fun y2 e2 => ?_⟩⟩
        rw [h2 o (140 * a + i) (by omega)] at e1
        subst e1 e2
        rw [nI_1]
        refine ih (i + 1) (by omega) _ (fun j hj => ?_) (fun u j q => ?_) (fun u j => h3 u j)
        · rw [gA_sA]
          by_cases q : j = i
          · rw [if_pos ⟨rfl, by omega⟩, q]
          · rw [if_neg (by omega)]
            exact h1 j (by omega)
        · rw [gA_sA, if_neg (by omega)]
          exact h2 u j q
  exact key 140 0 (by omega) w (fun j hj => absurd hj (Nat.not_lt_zero j)) (fun _ _ _ => rfl) (fun _ _ => rfl)
/-- the model's frame with what is thrown -/
def FrT (w w' : Wd) : Prop := (∀ o s, ¬ (o = 15 ∧ (s = 0 ∨ s = 21 ∨ s = 23 ∨ s = 24 ∨ s = 25)) → gI w' o s = gI w o s) ∧ (∀ o i, o ≠ 22 → o ≠ 23 → o ≠ 24 → gA w' o i = gA w o i)
theorem FrT.rf (w : Wd) : FrT w w := ⟨fun _ _ _ => rfl, fun _ _ _ _ _ => rfl⟩
theorem FrT.tr {a b c : Wd} (h : FrT a b) (g : FrT b c) : FrT a c := ⟨fun o s q => (g.1 o s q).trans (h.1 o s q), fun o i q r t => (g.2 o i q r t).trans (h.2 o i q r t)⟩
theorem FrM.T {w w' : Wd} (h : FrM w w') : FrT w w' := ⟨fun o s q => h.1 o s (by omega), h.2⟩
theorem FrT.th (w : Wd) (x : Int32) : FrT w (sI w 15 0 x) := ⟨fun o s q => by rw [gI_sI, if_neg (by omega)], fun _ _ _ _ _ => rfl⟩
theorem FrT.TD {w w' : Wd} {o b : Nat} {g : Gm} {r : Rs} (hF : FrT w w') (h : TD w o b g r) (ho : o ≠ 22 ∧ o ≠ 23 ∧ o ≠ 24) (hn : g.n ≤ 6) : TD w' o b g r := h.of (fun i _ => hF.2 o _ ho.1 ho.2.1 ho.2.2) hn
theorem TI.frT {b : Nat} {w w' : Wd} {S : Sy} (hS : S.ok b) (h : TI w S) (hF : FrT w w') : TI w' S := by
  obtain ⟨h1, ⟨h2, h3⟩, h4, h5, h6⟩ := h
  refine ⟨hF.TD h1 (by decide) hS.1.1.1, ⟨(hF.1 _ _ (by omega)).trans h2, fun i hi => hF.TD (h3 i hi) (by decide) (hS.2.2.1 i hi).1.1.1⟩, fun k hk => ⟨(hF.2 _ _ (by decide) (by decide) (by decide)).trans (h4 k hk).1, fun hs => hF.TD ((h4 k hk).2 hs) (by decide) (hS.2.2.2.1 k hk hs).1.1.1⟩, (hF.1 _ _ (by omega)).trans h5, fun i hi => (hF.2 _ _ (by decide) (by decide) (by decide)).trans (h6 i hi)⟩
theorem TI.frA {b : Nat} {w w' : Wd} {S : Sy} {p : Ps} (hS : S.ok b) (h : TI w S) (hF : FrA w w') (hT : TD w' 18 0 p.1 p.2) : TI w' (S.sp p) := by
  obtain ⟨h1, ⟨h2, h3⟩, h4, h5, h6⟩ := h
  exact ⟨hT, ⟨(hF.1 _ _).trans h2, fun i hi => (h3 i hi).of (fun j _ => hF.2 _ _ (by decide)) (hS.2.2.1 i hi).1.1.1⟩, fun k hk => ⟨(hF.2 _ _ (by decide)).trans (h4 k hk).1, fun hs => ((h4 k hk).2 hs).of (fun j _ => hF.2 _ _ (by decide)) (hS.2.2.2.1 k hk hs).1.1.1⟩, (hF.1 _ _).trans h5, fun i hi => (hF.2 _ _ (by decide)).trans (h6 i hi)⟩
theorem wm_keep {w : Wd} {b : Nat} {S : Sy} {Post : Wd → Prop} (hS : S.ok b) (hI : TI w S) (h : ∀ w', TI w' (keepS S) → gI w' 15 0 = gI w 15 0 → Post w') : wp_X9_keep w Post := by
  obtain ⟨t1, ⟨t2, t3⟩, t4, t5, t6⟩ := hI
  have hn := hS.1.1.1
  have hd := hS.2.1
  have hHn : ∀ i, i < S.d → (S.H i).1.n ≤ 6 := fun i hi => (hS.2.2.1 i hi).1.1.1
  have hTn : ∀ k, k < 2 → S.sv k = true → (S.T k).1.n ≤ 6 := fun k hk hs => (hS.2.2.2.1 k hk hs).1.1.1
  unfold wp_X9_keep
  intro J hJ
  refine ⟨fun c => ?_, fun c => ?_⟩
  · have hd10 : S.d = 10 := by
      rw [t2] at c
      exact nI_inj (b := 10) (by omega) (by omega) c
    have key : ∀ q j, j + q = 10 → 1 ≤ j → ∀ w', (∀ u, u < 10 → ∀ i, i < 140 → gA w' 19 (140 * u + i) = if u + 1 < j then gA w 19 (140 * (u + 1) + i) else gA w 19 (140 * u + i)) → (∀ o i, o ≠ 19 → gA w' o i = gA w o i) → (∀ o i, gI w' o i = gI w o i) → J (nI j) w' := by
      intro q
      induction q with
      | zero =>
        intro j hj h1 w' hv hA hI
        obtain rfl : j = 10 := by omega
        refine hJ _ _ ⟨fun _ y2 e2 => ?_, fun c => absurd (by decide) c⟩
        rw [hI, t2, hd10] at e2
        have e2 : y2 = nI 9 := e2
        subst e2
        rw [show gI (sI w' 15 15 (nI 9)) 15 15 = nI 9 by rw [gI_sI, if_pos ⟨rfl, rfl⟩]]
        refine wm_copy (a := 0) (b := 9) (by omega) (by omega) (by omega) (by omega) (Or.inl (by decide)) (fun w2 cA fA fI y3 e3 => ?_)
        rw [fI, gI_sI, if_pos ⟨rfl, rfl⟩] at e3
        have e3 : y3 = nI 10 := e3
        subst e3
        have oA : ∀ o i, o ≠ 19 → gA w2 o i = gA w o i := fun o i q => (fA o i (by omega)).trans (hA o i q)
        refine h _ ⟨t1.of (fun i _ => oA 18 _ (by decide)) hn, ⟨?_, fun i hi => ?_⟩, fun k hk => ⟨(oA 21 k (by decide)).trans (t4 k hk).1, fun hs => ((t4 k hk).2 hs).of (fun i _ => oA 20 _ (by decide)) (hTn k hk hs)⟩, ?_, fun i hi => (oA 16 i (by decide)).trans (t6 i hi)⟩ ?_
        · rw [gI_sI, if_pos ⟨rfl, rfl⟩]
          show nI 10 = nI (if S.d < 10 then S.d + 1 else 10)
          rw [if_neg (by omega)]
        · have hi : i < if S.d < 10 then S.d + 1 else 10 := hi
          rw [if_neg (by omega)] at hi
          show TD _ 19 (140 * ((if S.d < 10 then S.d + 1 else 10) - 1 - i)) (if i = 0 then S.p else S.H (i - 1)).1 (if i = 0 then S.p else S.H (i - 1)).2
          rw [if_neg (show ¬ S.d < 10 by omega)]
          cases i with
          | zero =>
            rw [if_pos rfl]
            exact t1.cp hn (fun i hi => (cA i hi).trans ((hA 18 _ (by decide))))
          | succ i =>
            rw [if_neg (by omega), show i + 1 - 1 = i by omega]
            refine (t3 i (by omega)).cp (hHn i (by omega)) (fun k hk => ?_)
            show gA w2 19 _ = _
            rw [fA 19 _ (by omega)]
            show gA w' 19 _ = _
            rw [hv _ (by omega) k hk, if_pos (by omega), show 10 - 1 - (i + 1) + 1 = S.d - 1 - i by omega]
        · rw [gI_sI, if_neg (by omega), fI, gI_sI, if_neg (by omega), hI]
          exact t5
        · rw [gI_sI, if_neg (by omega), fI, gI_sI, if_neg (by omega), hI]
      | succ q ih =>
        intro j hj h1 w' hv hA hI
        refine hJ _ _ ⟨fun c => ?_, fun _ => ?_⟩
        · simp (disch := omega) only [fa_lit, nI_leI] at c
          omega
        · rw [show nI j - 1 = nI (j - 1) from pk_sub (b := 1) h1]
          refine wm_copy (a := j) (b := j - 1) (by omega) (by omega) (by omega) (by omega) (Or.inr (by omega)) (fun w2 cA fA fI y4 e4 => ?_)
          subst e4
          rw [nI_1]
          refine ih (j + 1) (by omega) (by omega) w2 (fun u hu i hi => ?_) (fun o i q => (fA o i (by omega)).trans (hA o i q)) (fun o i => (fI o i).trans (hI o i))
          by_cases q : u = j - 1
          · rw [q, cA i hi, hv j (by omega) i hi, if_neg (by omega), if_pos (by omega), show j - 1 + 1 = j by omega]
          · rw [fA 19 _ (by omega), hv u hu i hi]
            by_cases q2 : u + 1 < j
            · rw [if_pos q2, if_pos (by omega)]
            · rw [if_neg q2, if_neg (by omega)]
    exact key 9 1 (by omega) (by omega) w (fun u hu i hi => by rw [if_neg (by omega)]) (fun _ _ _ => rfl) (fun _ _ => rfl)
  · have hd9 : S.d < 10 := by
      rcases Nat.lt_or_ge S.d 10 with q | q
      · exact q
      · exact absurd (by rw [t2, show S.d = 10 by omega]; rfl) c
    rw [t2]
    refine wm_copy (a := 0) (b := S.d) (by omega) (by omega) (by omega) (by omega) (Or.inl (by decide)) (fun w2 cA fA fI y1 e1 => ?_)
    rw [fI, t2, nI_1] at e1
    subst e1
    have oA : ∀ o i, o ≠ 19 → gA w2 o i = gA w o i := fun o i q => fA o i (by omega)
    refine h _ ⟨t1.of (fun i _ => oA 18 _ (by decide)) hn, ⟨?_, fun i hi => ?_⟩, fun k hk => ⟨(oA 21 k (by decide)).trans (t4 k hk).1, fun hs => ((t4 k hk).2 hs).of (fun i _ => oA 20 _ (by decide)) (hTn k hk hs)⟩, ?_, fun i hi => (oA 16 i (by decide)).trans (t6 i hi)⟩ ?_
    · rw [gI_sI, if_pos ⟨rfl, rfl⟩]
      show nI (S.d + 1) = nI (if S.d < 10 then S.d + 1 else 10)
      rw [if_pos hd9]
    · have hi : i < if S.d < 10 then S.d + 1 else 10 := hi
      rw [if_pos hd9] at hi
      show TD _ 19 (140 * ((if S.d < 10 then S.d + 1 else 10) - 1 - i)) (if i = 0 then S.p else S.H (i - 1)).1 (if i = 0 then S.p else S.H (i - 1)).2
      rw [if_pos hd9]
      cases i with
      | zero =>
        rw [if_pos rfl]
        exact t1.cp hn (fun i hi => cA i hi)
      | succ i =>
        rw [if_neg (by omega), show i + 1 - 1 = i by omega]
        refine (t3 i (by omega)).cp (hHn i (by omega)) (fun k hk => ?_)
        show gA w2 19 _ = _
        rw [fA 19 _ (by omega), show S.d + 1 - 1 - (i + 1) = S.d - 1 - i by omega]
    · rw [gI_sI, if_neg (by omega), fI]
      exact t5
    · rw [gI_sI, if_neg (by omega), fI]
theorem wm_undo {w : Wd} {b : Nat} {S : Sy} {Post : Int32 → Wd → Prop} (hS : S.ok b) (hI : TI w S) (h0 : ∀ w', S.d = 0 → TI w' S → Post (-1) w') (h : ∀ w', 0 < S.d → TI w' (undoS S) → Post (nI (S.d - 1)) w') : wp_X9_undo w Post := by
  have hI0 : TI (sI w 15 0 0) S := hI.frT hS (FrT.th w 0)
  obtain ⟨t1, ⟨t2, t3⟩, t4, t5, t6⟩ := id hI0
  have hd := hS.2.1
  have hTn : ∀ k, k < 2 → S.sv k = true → (S.T k).1.n ≤ 6 := fun k hk hs => (hS.2.2.2.1 k hk hs).1.1.1
  unfold wp_X9_undo
  rw [t2, eq0 (by omega)]
  refine ⟨fun c => h0 _ c hI0, fun c y1 e1 => ?_⟩
  have hpos : 0 < S.d := Nat.pos_of_ne_zero c
  have hHn : ∀ i, i < S.d → (S.H i).1.n ≤ 6 := fun i hi => (hS.2.2.1 i hi).1.1.1
  rw [show nI S.d - 1 = nI (S.d - 1) from pk_sub (b := 1) hpos] at e1
  subst e1
  rw [show gI (sI (sI w 15 0 0) 15 15 (nI (S.d - 1))) 15 15 = nI (S.d - 1) by rw [gI_sI, if_pos ⟨rfl, rfl⟩]]
  refine wm_copy (a := S.d - 1) (b := 0) (by omega) (by omega) (by omega) (by omega) (Or.inl (by decide)) (fun w2 cA fA fI => ?_)
  have e15 : gI w2 15 15 = nI (S.d - 1) := by rw [fI, gI_sI, if_pos ⟨rfl, rfl⟩]
  rw [e15]
  have oA : ∀ o i, o ≠ 18 → gA w2 o i = gA (sI w 15 0 0) o i := fun o i q => fA o i (by omega)
  refine h w2 hpos ⟨?_, ⟨e15, fun i hi => ?_⟩, fun k hk => ⟨(oA 21 k (by decide)).trans (t4 k hk).1, fun hs => ((t4 k hk).2 hs).of (fun i _ => oA 20 _ (by decide)) (hTn k hk hs)⟩, ?_, fun i hi => (oA 16 i (by decide)).trans (t6 i hi)⟩
  · have h3 := t3 0 hpos
    exact h3.cp (hHn 0 hpos) (fun i hi => cA i hi)
  · have hi : i < S.d - 1 := hi
    have h3 := t3 (i + 1) (by omega)
    rw [show S.d - 1 - (i + 1) = S.d - 1 - 1 - i by omega] at h3
    exact h3.of (fun j _ => oA 19 _ (by decide)) (hHn (i + 1) (by omega))
  · rw [fI, gI_sI, if_neg (by omega)]
    exact t5
theorem wi2 {x : Int32} (h : ¬ (x < 0 ∨ 1 < x)) : ∃ k, k < 2 ∧ x = nI k := by
  obtain ⟨j, _, h2, e⟩ := rng (a := 0) (b := 1) (by omega) (by omega) (fun q => h (Or.inl q)) (fun q => h (Or.inr q))
  exact ⟨j, by omega, e⟩
theorem wo2 {x : Int32} (h : x < 0 ∨ 1 < x) : ∀ k, k < 2 → ¬ x = nI k := by
  intro k hk e
  subst e
  rcases h with c | c
  · exact nI_pos (by omega) c
  · have : nI 1 < nI k := c
    simp (disch := omega) only [nI_ltI] at this
    omega
theorem wm_save {w : Wd} {b : Nat} {S : Sy} {x : Int32} {Post : Int32 → Wd → Prop} (hS : S.ok b) (hI : TI w S) (h0 : ∀ w', (∀ k, k < 2 → ¬ x = nI k) → TI w' S → Post 0 w') (h : ∀ k w', k < 2 → x = nI k → TI w' (saveS S k) → Post 1 w') : wp_X9_saveSnapshot w x Post := by
  have hI0 : TI (sI w 15 0 0) S := hI.frT hS (FrT.th w 0)
  obtain ⟨t1, ⟨t2, t3⟩, t4, t5, t6⟩ := id hI0
  have hn := hS.1.1.1
  have hTn : ∀ k, k < 2 → S.sv k = true → (S.T k).1.n ≤ 6 := fun k hk hs => (hS.2.2.2.1 k hk hs).1.1.1
  have hHn : ∀ i, i < S.d → (S.H i).1.n ≤ 6 := fun i hi => (hS.2.2.1 i hi).1.1.1
  unfold wp_X9_saveSnapshot
  refine wm_within (fun c => ⟨fun _ => h0 _ (wo2 c) hI0, fun q => absurd rfl q⟩) (fun c => ⟨fun q => absurd q (by decide), fun _ => ?_⟩)
  obtain ⟨k, hk, rfl⟩ := wi2 c
  refine wm_copy (a := 0) (b := k) (by omega) (by omega) (by omega) (by omega) (Or.inl (by decide)) (fun w2 cA fA fI => ⟨pk_in k 2 hk, ?_⟩)
  rw [nI_clamp (by omega), nar1]
  have oA : ∀ o i, o ≠ 20 → o ≠ 21 → gA (sA w2 21 k 1) o i = gA (sI w 15 0 0) o i := fun o i q q2 => by
    rw [gA_sA, if_neg (fun c => q2 c.1)]
    exact fA o i (by omega)
  have o20 : ∀ i, gA (sA w2 21 k 1) 20 i = gA w2 20 i := fun i => by rw [gA_sA, if_neg (by omega)]
  refine h k _ hk rfl ⟨t1.of (fun i _ => oA 18 _ (by decide) (by decide)) hn, ⟨(fI 15 15).trans t2, fun i hi => (t3 i hi).of (fun j _ => oA 19 _ (by decide) (by decide)) (hHn i hi)⟩, fun j hj => ?_, (fI 15 2).trans t5, fun i hi => (oA 16 i (by decide) (by decide)).trans (t6 i hi)⟩
  show gA (sA w2 21 k 1) 21 j = bI (if j = k then true else S.sv j) ∧ ((if j = k then true else S.sv j) = true → TD (sA w2 21 k 1) 20 (140 * j) (if j = k then S.p else S.T j).1 (if j = k then S.p else S.T j).2)
  by_cases q : j = k
  · subst q
    rw [if_pos rfl, if_pos rfl]
    refine ⟨by rw [gA_sA, if_pos ⟨rfl, rfl⟩]; rfl, fun _ => t1.cp hn (fun i hi => (o20 _).trans (cA i hi))⟩
  · rw [if_neg q, if_neg q]
    refine ⟨by rw [gA_sA, if_neg (fun c => q c.2)]; exact (fA 21 j (by omega)).trans (t4 j hj).1, fun hs => ((t4 j hj).2 hs).of (fun i hi => (o20 _).trans (fA 20 _ (by omega))) (hTn j hj hs)⟩
theorem wm_restore {w : Wd} {b : Nat} {S : Sy} {x : Int32} {Post : Int32 → Wd → Prop} (hS : S.ok b) (hI : TI w S) (h0 : ∀ w', (∀ k, k < 2 → x = nI k → S.sv k = false) → TI w' S → Post 0 w') (h : ∀ k w', k < 2 → x = nI k → S.sv k = true → TI w' (restS S k) → Post 1 w') : wp_X9_restoreSnapshot w x Post := by
  have hI0 : TI (sI w 15 0 0) S := hI.frT hS (FrT.th w 0)
  obtain ⟨t1, ⟨t2, t3⟩, t4, t5, t6⟩ := id hI0
  have hTn : ∀ k, k < 2 → S.sv k = true → (S.T k).1.n ≤ 6 := fun k hk hs => (hS.2.2.2.1 k hk hs).1.1.1
  unfold wp_X9_restoreSnapshot
  refine wm_within (fun c => ⟨fun _ => h0 _ (fun k hk e => absurd e (wo2 c k hk)) hI0, fun q => absurd rfl q⟩) (fun c => ⟨fun q => absurd q (by decide), fun _ => ?_⟩)
  obtain ⟨k, hk, rfl⟩ := wi2 c
  rw [nI_clamp (by omega), (t4 k hk).1]
  refine ⟨pk_in k 2 hk, fun c => h0 _ (fun j hj e => ?_) hI0, fun c => ?_⟩
  · obtain rfl := nI_inj (by omega) (by omega) e
    exact (bI_0 _).mp c
  · have hs : S.sv k = true := by
      rw [bI_0] at c
      simpa using c
    refine wm_copy (a := k) (b := 0) (by omega) (by omega) (by omega) (by omega) (Or.inl (by decide)) (fun w2 cA fA fI => ?_)
    have oA : ∀ o i, o ≠ 18 → gA w2 o i = gA (sI w 15 0 0) o i := fun o i q => fA o i (by omega)
    refine h k _ hk rfl hs ⟨((t4 k hk).2 hs).cp (hTn k hk hs) (fun i hi => cA i hi), ⟨by rw [gI_sI, if_pos ⟨rfl, rfl⟩]; rfl, fun i hi => absurd hi (Nat.not_lt_zero i)⟩, fun j hj => ⟨(oA 21 j (by decide)).trans (t4 j hj).1, fun hs => ((t4 j hj).2 hs).of (fun i _ => oA 20 _ (by decide)) (hTn j hj hs)⟩, by rw [gI_sI, if_neg (by omega)]; exact (fI 15 2).trans t5, fun i hi => (oA 16 i (by decide)).trans (t6 i hi)⟩

/-! the model: its values are right, reasons against acts -/
set_option maxHeartbeats 4000000 in
theorem wm_isMex {w : Wd} {g : Gm} {l : Nat} {Post : Int32 → Wd → Prop} (hg : g.ok) (hG : LG w g) (hl : l < g.n) (h : ∀ w', FrM w w' → Post 1 w') : wp_X9_isMex w (nI l) Post := by
  obtain ⟨b1, b2, b3, b4, b5, b6, b7, b8, b9, b10⟩ := hg.2 l hl
  have hl6 : l < 6 := Nat.lt_of_lt_of_le hl hg.1
  have hm13 := g.co13 hg hl
  have hpm := g.pos hg hl
  have hmem : ∀ x, x ∈ nA (g.lk l) (g.sz l) (g.co l) (g.top l) ↔ x ∈ nxs (g.lk l) (g.sz l) (g.co l) := fun x => mem_nA b8 b9 b2
  have hv12 := vNow_le hg hl
  unfold wp_X9_isMex
  intro J17 J31 h17 h31
  refine wm_lays hg hG hl (fun w1 hF1 hL => wm_of (k := 2) hl6 (by omega) ?_)
  obtain ⟨a1, a2, a3, a4, a5⟩ := (hG.fr hF1.e18).2 l hl
  rw [a3]
  have outer : ∀ k, k ≤ g.top l → ∀ P q, P ++ nH (g.lk l) (g.sz l) (g.co l) (g.top l) k = nA (g.lk l) (g.sz l) (g.co l) (g.top l) → q < 8192 → (∀ v, q.testBit v = P.any (fun x => val (g.lk l) (g.sz l) x == v)) → J17 (nI (g.co l)) (nI q) (nI (g.top l + 1 - k)) w1 := by
    intro k
    induction k with
    | zero =>
      intro _ P q hP hq hqb
      have hP' : P = nA (g.lk l) (g.sz l) (g.co l) (g.top l) := by rw [← hP]; simp [nH]
      refine h17 _ _ _ _ (wm_of (k := 0) hl6 (by omega) ?_)
      rw [a1]
      refine ⟨fun _ => ⟨pk_in (g.co l) 8192 hm13, fun y1 e1 => ⟨pk_in (g.co l) 8192 hm13, ?_⟩⟩, fun c => ?_⟩
      · have hqn : ∀ v, q.testBit v = (nxs (g.lk l) (g.sz l) (g.co l)).any (fun x => val (g.lk l) (g.sz l) x == v) := fun v => by
          rw [hqb v, hP']
          exact any_mem hmem
        have em : vNow g l = mex (fun v => (nxs (g.lk l) (g.sz l) (g.co l)).any (fun x => val (g.lk l) (g.sz l) x == v)) := val_eq b9
        have q0 : q.testBit (vNow g l) = false := by
          rw [hqn]
          have := mex_no (fun v => (nxs (g.lk l) (g.sz l) (g.co l)).any (fun x => val (g.lk l) (g.sz l) x == v)) (by omega)
          rw [← em] at this
          exact this
        have q1 : ∀ u, u < vNow g l → q.testBit u = true := fun u hu => by
          rw [hqn]
          exact mex_lt (fun v => (nxs (g.lk l) (g.sz l) (g.co l)).any (fun x => val (g.lk l) (g.sz l) x == v)) (by omega)
        have hp : 1 ≤ 2 ^ vNow g l := Nat.one_le_two_pow
        have hw : gA w1 22 (g.co l) = nI (vNow g l) := (hL _ b8 b9 b10).1
        rw [nI_clamp (by omega), hw] at e1 ⊢
        rw [nI_shl1 (by omega), show nI (2 ^ vNow g l) - 1 = nI (2 ^ vNow g l - 1) from pk_sub (b := 1) hp] at e1
        subst e1
        refine wh_has (by omega) (by omega) ?_
        rw [q0]
        have hand : q &&& (2 ^ vNow g l - 1) = 2 ^ vNow g l - 1 := by
          apply Nat.eq_of_testBit_eq
          intro i
          rw [Nat.testBit_and, Nat.testBit_two_pow_sub_one]
          by_cases hi : i < vNow g l
          · rw [q1 i hi]; simp [hi]
          · simp [hi]
        exact ⟨fun _ => ⟨fun _ => h w1 hF1.M, fun c => absurd (by rw [fa_and, hand]) c⟩, fun c => absurd rfl c⟩
      · simp (disch := omega) only [nI_ltI] at c
        omega
    | succ k ih =>
      intro hk P q hP hq hqb
      have ih' := ih (by omega)
      rw [show g.top l + 1 - k = g.top l - k + 1 by omega] at ih'
      rw [show g.top l + 1 - (k + 1) = g.top l - k by omega]
      rw [nH] at hP
      generalize hh : g.top l - k = hi at ih' hP
      have nxt : ∀ P q, P ++ nH (g.lk l) (g.sz l) (g.co l) (g.top l) k = nA (g.lk l) (g.sz l) (g.co l) (g.top l) → q < 8192 → (∀ v, q.testBit v = P.any (fun x => val (g.lk l) (g.sz l) x == v)) → ∀ y, y = nI hi + 1 → J17 (nI (g.co l)) (nI q) y w1 := by
        intro P q hP hq hqb y e
        subst e
        rw [nI_1]
        exact ih' P q hP hq hqb
      have inner : ∀ k', k' ≤ 12 → ∀ P q, P ++ (nS (g.lk l) (g.sz l) (g.co l) hi k' ++ nH (g.lk l) (g.sz l) (g.co l) (g.top l) k) = nA (g.lk l) (g.sz l) (g.co l) (g.top l) → q < 8192 → (∀ v, q.testBit v = P.any (fun x => val (g.lk l) (g.sz l) x == v)) → J31 (nI (g.co l)) (nI q) (nI hi) (nI (13 - k')) w1 := by
        intro k'
        induction k' with
        | zero =>
          intro _ P q hP hq hqb
          exact h31 _ _ _ _ _ ⟨fun _ => nxt P q (by simpa [nS] using hP) hq hqb, fun c => absurd (by decide) c⟩
        | succ k' ihk =>
          intro hk' P q hP hq hqb
          have ihk' := ihk (by omega)
          rw [show 13 - k' = 12 - k' + 1 by omega] at ihk'
          rw [show 13 - (k' + 1) = 12 - k' by omega]
          have hs1 : 1 ≤ 12 - k' := by omega
          have hs2 : 12 - k' ≤ 12 := by omega
          rw [nS] at hP
          generalize hs : 12 - k' = s at ihk' hP hs1 hs2
          refine h31 _ _ _ _ _ ⟨fun c => ?_, fun _ => wh_has (lt31 hm13) (by omega) ?_⟩
          · simp (disch := omega) only [fa_lit, nI_ltI] at c
            omega
          rw [bI_0]
          refine ⟨fun c => ?_, fun c => ?_⟩
          · refine nxt P q ?_ hq hqb
            rw [nS_nil c, if_neg (fun q => by rw [(okS_sp q).1] at c; cases c)] at hP
            exact hP
          · have hbit : (g.co l).testBit hi = true := by simpa using c
            refine wm_of (k := 4) hl6 (by omega) ?_
            rw [a5]
            refine wh_has (lt31 b4) (by omega) ?_
            rw [bI_0]
            have skip : ¬ okS (g.lk l) (g.sz l) (g.co l) hi s = true → ∀ y, y = nI s + 1 → J31 (nI (g.co l)) (nI q) (nI hi) y w1 := by
              intro hn y e
              subst e
              rw [nI_1]
              rw [if_neg hn] at hP
              exact ihk' P q hP hq hqb
            refine ⟨fun c2 => skip (fun q => by rw [(okS_sp q).2.1] at c2; cases c2), fun c2 => ?_⟩
            have hzb : (g.sz l).testBit s = true := by simpa using c2
            refine wm_behind hl6 a4 b6 b7 hm13 b9 (by omega) ⟨hs1, by omega⟩ hbit ?_
            obtain ⟨bo, bn⟩ := bhM_ok (l := g.lk l) (z := g.sz l) (m := g.co l) (h := hi) (s := s) hbit hzb
            by_cases hok : okS (g.lk l) (g.sz l) (g.co l) hi s = true
            · rw [bo hok]
              have hx : nx (g.co l) hi s ∈ nxs (g.lk l) (g.sz l) (g.co l) := mem_nxs.mpr ⟨hi, s, by omega, hs1, hs2, hok, rfl⟩
              obtain ⟨p1, p2, p3⟩ := nxs_pos hpm hx
              obtain ⟨x1, x2, x3⟩ := isPos_sp p1
              have v1 := (hL _ (Nat.lt_trans (nxs_lt b9 hx).1 b8) x2 (by omega)).1
              have hvl := val_le (l := g.lk l) (z := g.sz l) x2 x3 b5
              rw [if_pos hok] at hP
              generalize hX : nx (g.co l) hi s = X at hx p1 p2 p3 x1 x2 x3 v1 hvl hP
              refine ⟨fun c3 => absurd c3 (n1_ne (by omega)), fun _ => ⟨pk_in X 8192 x1, fun y6 e6 y7 e7 => ?_⟩⟩
              rw [nI_clamp (by omega), v1, nI_shl1 (by omega), fa_or] at e6
              subst e6 e7
              rw [nI_1]
              have hq' : (q ||| 2 ^ val (g.lk l) (g.sz l) X) < 8192 := lt13 (fun j hj => by
                rw [Nat.testBit_or, tb_big hq hj, Nat.testBit_two_pow, decide_eq_false (by omega)]
                rfl)
              have hqb' := bits_push (f := fun x => val (g.lk l) (g.sz l) x) (X := X) hqb
              exact ihk' (P ++ [X]) _ (by rw [← hP]; simp) hq' hqb'
            · rw [bn hok]
              exact ⟨fun _ => skip hok, fun c3 => absurd rfl c3⟩
      refine h17 _ _ _ _ (wm_of (k := 0) hl6 (by omega) ?_)
      rw [a1]
      refine ⟨fun c => ?_, fun _ => inner 12 (by omega) P q hP hq hqb⟩
      simp (disch := omega) only [nI_ltI] at c
      omega
  have := outer (g.top l) (Nat.le_refl _) [] 0 (by simp [nA]) (by omega) (fun v => by simp)
  rw [show g.top l + 1 - g.top l = 1 by omega] at this
  exact this
theorem wm_isRight {w : Wd} {g : Gm} {Post : Int32 → Wd → Prop} (hg : g.ok) (hG : LG w g) (h : ∀ w', FrM (sI w 15 0 0) w' → Post 1 w') : wp_X9_isRight w Post := by
  unfold wp_X9_isRight wp_X9_ladders
  intro J hJ
  have hn := hg.1
  have hG0 : LG (sI w 15 0 0) g := hG.fr (fun _ => rfl)
  have key : ∀ k l, l + k = g.n → ∀ w', FrM (sI w 15 0 0) w' → J 1 (nI l) w' := by
    intro k
    induction k with
    | zero =>
      intro l hl w' hF
      obtain rfl : l = g.n := by omega
      refine hJ _ _ _ ⟨fun _ => ⟨Or.inr rfl, h w' hF⟩, fun c => ?_⟩
      rw [(hG0.fr hF.e18).1] at c
      simp (disch := omega) only [nI_leI] at c
      omega
    | succ k ih =>
      intro l hl w' hF
      refine hJ _ _ _ ⟨fun c => ?_, fun _ => ⟨fun c => absurd c (by decide), fun _ => ?_⟩⟩
      · rw [(hG0.fr hF.e18).1] at c
        simp (disch := omega) only [nI_leI] at c
        omega
      · refine wm_isMex hg (hG0.fr hF.e18) (by omega) (fun w2 hF2 => ⟨fun c => absurd c (by decide), fun _ y ey => ?_⟩)
        subst ey
        rw [nI_1]
        exact ih (l + 1) (by omega) w2 (hF.tr hF2)
  exact key g.n 0 (by omega) _ (FrM.rf _)
/-- the model's state that is now, without the + 0 -/
theorem TD.z {w : Wd} {g : Gm} {r : Rs} (h : TD w 18 0 g r) : (∀ l, l < g.n → gA w 18 (1 + 7 * l + 5) = r.ow l ∧ gA w 18 (1 + 7 * l + 6) = nI (r.la l)) ∧ (∀ p, p < 2 → ∀ k, k < 3 → gA w 18 (43 + 6 * p + k) = nI (r.tk (3 * p + k)) ∧ gA w 18 (43 + 6 * p + (3 + k)) = r.ct (3 * p + k)) ∧ gA w 18 55 = nI r.tu ∧ gA w 18 56 = nI r.ac ∧ gA w 18 57 = r.bn.1 ∧ (r.bn.1 ≠ -1 → gA w 18 58 = r.bn.2.1 ∧ gA w 18 59 = r.bn.2.2) ∧ ∀ i, i < 80 → i / 5 < r.ac → gA w 18 (60 + i) = r.lg i := by
  obtain ⟨h1, h2, h3, h4, h5, h6, h7, h8⟩ := h
  simp only [Nat.zero_add] at h2 h3 h4 h5 h6 h7 h8
  exact ⟨fun l hl => (h2 l hl).2.2.2.2.2, h3, h4, h5, h6, h7, h8⟩
theorem wm_within {w : Wd} {x a b : Int32} {Post : Int32 → Wd → Prop} (h0 : (x < a ∨ b < x) → Post 0 w) (h1 : ¬ (x < a ∨ b < x) → Post 1 w) : wp_X9_within w x a b Post := by
  unfold wp_X9_within
  exact ⟨fun c => h0 (Or.inl c), fun c => ⟨fun c2 => h0 (Or.inr c2), fun c2 => h1 (fun q => q.elim c c2)⟩⟩
theorem wm_isLadder {w : Wd} {g : Gm} {x : Int32} {Post : Int32 → Wd → Prop} (hg : g.ok) (hG : LG w g) (h0 : (x < 0 ∨ nI g.n ≤ x) → Post 0 w) (h1 : ¬ (x < 0 ∨ nI g.n ≤ x) → Post 1 w) : wp_X9_isLadder w x Post := by
  have hn := hg.1
  unfold wp_X9_isLadder wp_X9_ladders
  rw [hG.1]
  have e : (nI g.n - 1).toInt = (g.n : Int) - 1 := pk_sub_toInt (a := g.n) (b := 1) (by omega) (by omega)
  have e2 : nI g.n - 1 < x ↔ nI g.n ≤ x := by
    rw [fa_lt, fa_le, e, nI_toInt (by omega)]
    omega
  refine wm_within (fun c => ⟨Or.inl rfl, h0 (c.elim Or.inl (fun c => Or.inr (e2.mp c)))⟩) (fun c => ⟨Or.inr rfl, h1 (fun q => c (q.elim Or.inl (fun q => Or.inr (e2.mpr q))))⟩)
theorem wm_barred {w : Wd} {g : Gm} {r : Rs} {l : Nat} {y z : Int32} {Post : Int32 → Wd → Prop} (hg : g.ok) (hT : TD w 18 0 g r) (hl : l < g.n) (h : Post (barS r l (nI l) y z) w) : wp_X9_barred w (nI l) y z Post := by
  have hl6 : l < 6 := Nat.lt_of_lt_of_le hl hg.1
  obtain ⟨t1, t2, t3, t4, t5, t6, t7⟩ := hT.z
  unfold wp_X9_barred
  refine wm_of (k := 5) hl6 (by omega) ?_
  rw [(t1 l hl).1, t3, t5]
  unfold barS at h
  refine ⟨fun c => ?_, fun c => ⟨fun c2 => ?_, fun c2 => ?_⟩⟩
  · rw [if_pos c] at h; exact h
  · rw [if_neg c] at h
    have hb : r.bn.1 ≠ -1 := by rw [c2]; exact n1_ne (by omega)
    rw [(t6 hb).1, (t6 hb).2]
    refine ⟨fun c3 => ⟨fun c4 => ?_, fun c4 => ?_⟩, fun c3 => ?_⟩
    · rw [if_pos ⟨c2.symm, c3.symm, c4.symm⟩] at h; exact h
    · rw [if_neg (fun q => c4 q.2.2.symm)] at h; exact h
    · rw [if_neg (fun q => c3 q.2.1.symm)] at h; exact h
  · rw [if_neg c, if_neg (fun q => c2 q.1.symm)] at h; exact h
def whyF (g : Gm) (r : Rs) (x y z : Int32) : Int32 := if ovB g = true then 1 else whyS g r x y z
set_option maxHeartbeats 4000000 in
theorem wm_whyStep {w : Wd} {g : Gm} {r : Rs} {x y z : Int32} {Post : Int32 → Wd → Prop} (hg : g.ok) (hT : TD w 18 0 g r) (h : Post (whyF g r x y z) w) : wp_X9_whyStep w x y z Post := by
  have hG := hT.lg
  unfold wp_X9_whyStep
  unfold whyF at h
  refine wm_isOver hg hG ?_
  rw [bI_0]
  refine ⟨fun c => ?_, fun c => ?_⟩
  rotate_left
  · rw [if_pos (by simpa using c)] at h; exact h
  rw [if_neg (by rw [c]; decide)] at h
  clear c
  unfold whyS at h
  refine wm_isLadder hg hG (fun c => ?_) (fun c => ?_)
  · rw [if_pos c] at h
    exact ⟨fun _ => h, fun q => absurd rfl q⟩
  rw [if_neg c] at h
  obtain ⟨l, hl, rfl⟩ := ladX hg.1 c
  have hl6 : l < 6 := Nat.lt_of_lt_of_le hl hg.1
  obtain ⟨b1, b2, b3, b4, b5, b6, b7, b8, b9, b10⟩ := hg.2 l hl
  obtain ⟨a1, a2, a3, a4, a5⟩ := hG.2 l hl
  have hc := g.co13 hg hl
  rw [nI_clamp (show l < 2 ^ 31 by omega)] at h
  refine ⟨fun q => absurd q (by decide), fun _ => wm_of (k := 0) hl6 (by omega) ?_⟩
  rw [a1]
  refine wm_within (fun c1 => ?_) (fun c1 => ?_)
  · rw [if_pos (c1.elim Or.inl (fun c => Or.inr (Or.inl c)))] at h
    exact ⟨fun _ => h, fun q => absurd rfl q⟩
  have c1a : ¬ y < 1 := fun q => c1 (Or.inl q)
  have c1b : ¬ nI (g.top l) < y := fun q => c1 (Or.inr q)
  obtain ⟨hN, h1, h2, rfl⟩ := rng (a := 1) (by omega) (by omega) c1a c1b
  rw [nI_clamp (show hN < 2 ^ 31 by omega)] at h
  refine ⟨fun q => absurd q (by decide), fun _ => wm_of (k := 2) hl6 (by omega) ?_⟩
  rw [a3]
  refine wh_has (lt31 hc) (by omega) ?_
  rw [bI_0]
  refine ⟨fun c3 => ?_, fun c3 => ?_⟩
  · rw [if_pos (Or.inr (Or.inr c3))] at h; exact h
  rw [if_neg (fun q => q.elim c1a (fun q => q.elim c1b c3))] at h
  refine wm_within (fun c4 => ?_) (fun c4 => ?_)
  · rw [if_pos (c4.elim Or.inl (fun c => Or.inr (Or.inl c)))] at h
    exact ⟨fun _ => h, fun q => absurd rfl q⟩
  have c4a : ¬ z < 1 := fun q => c4 (Or.inl q)
  have c4b : ¬ 12 < z := fun q => c4 (Or.inr q)
  obtain ⟨s, s1, s2, rfl⟩ := rng (a := 1) (b := 12) (by omega) (by omega) c4a c4b
  rw [nI_clamp (show s < 2 ^ 31 by omega)] at h
  refine ⟨fun q => absurd q (by decide), fun _ => wm_of (k := 4) hl6 (by omega) ?_⟩
  rw [a5]
  refine wh_has (lt31 b4) (by omega) ?_
  rw [bI_0]
  refine ⟨fun c6 => ?_, fun c6 => ?_⟩
  · rw [if_pos (Or.inr (Or.inr c6))] at h; exact h
  rw [if_neg (fun q => q.elim c4a (fun q => q.elim c4b c6))] at h
  intro y2 e2
  by_cases hs : s ≤ hN
  · rw [pk_sub hs] at e2
    subst e2
    rw [if_neg (nI_nlt hs (by omega))] at h
    rw [le0 (by omega)]
    refine ⟨fun _ => ⟨fun c7 => ⟨fun _ => ?_, fun q => absurd c7 q⟩, fun c7 => wm_of (k := 3) hl6 (by omega) ?_⟩, fun q => absurd (nI_pos' (by omega)) q⟩
    · rw [if_neg (by rw [c7, b7]; decide), if_neg (by rw [c7, b9]; decide)] at h
      exact wm_barred hg hT hl h
    · rw [a4]
      refine wh_has (lt31 b6) (by omega) ?_
      rw [bI_0]
      refine ⟨fun c8 => ?_, fun c8 => ?_⟩
      · rw [if_neg (by rw [c8]; decide)] at h
        refine ⟨fun q => absurd q c7, fun _ => wm_of (k := 2) hl6 (by omega) ?_⟩
        rw [a3]
        refine wh_has (lt31 hc) (by omega) ?_
        rw [bI_0]
        refine ⟨fun c9 => ?_, fun c9 => ?_⟩
        · rw [if_neg (by rw [c9]; decide)] at h
          exact wm_barred hg hT hl h
        · rw [if_pos (by simpa using c9)] at h; exact h
      · rw [if_pos (by simpa using c8)] at h; exact h
  · have e3 := pk_sneg (a := hN) (b := s) (by omega) (by omega)
    rw [← e2] at e3
    rw [if_pos (nI_lt (by omega) (by omega))] at h
    refine ⟨fun q => ?_, fun _ => h⟩
    rw [fa_lt] at e3
    rw [fa_le] at q
    exact absurd e3 (Int.not_lt.mpr q)
theorem tok_ix {t k : Nat} : (43 + (6 * nI t)) + nI k = nI (43 + 6 * t + k) := by
  rw [show (43 + (6 * nI t)) + nI k = (nI 43 + (nI 6 * nI t)) + nI k from rfl, pk_mul, nI_add, nI_add]
theorem wm_tokens {w : Wd} {b k : Nat} {g : Gm} {r : Rs} {Post : Int32 → Wd → Prop} (hr : r.ok b g.n) (hT : TD w 18 0 g r) (hk : k < 3) (h : Post (nI (r.tk (3 * r.tu + k))) w) : wp_X9_tokens w (nI k) Post := by
  have ht := hr.1
  obtain ⟨t1, t2, t3, t4, t5, t6, t7⟩ := hT.z
  unfold wp_X9_tokens
  rw [t3, tok_ix, nI_clamp (by omega), (t2 r.tu (by omega) k hk).1]
  exact ⟨pk_in (43 + 6 * r.tu + k) 140 (by omega), h⟩
theorem eq0 {t : Nat} (h : t < 2 ^ 31) : nI t = 0 ↔ t = 0 := nI_eq (b := 0) h (by omega)
theorem wm_whyClaim {w : Wd} {b : Nat} {g : Gm} {r : Rs} {x : Int32} {Post : Int32 → Wd → Prop} (hg : g.ok) (hr : r.ok b g.n) (hT : TD w 18 0 g r) (h : Post (whyC g r x) w) : wp_X9_whyClaim w x Post := by
  have hG := hT.lg
  have ht := hr.1
  unfold wp_X9_whyClaim
  unfold whyC at h
  refine wm_isOver hg hG ?_
  rw [bI_0]
  refine ⟨fun c => ?_, fun c => ?_⟩
  · rw [if_neg (by rw [c]; decide)] at h
    refine wm_isLadder hg hG (fun c => ?_) (fun c => ?_)
    · rw [if_pos c] at h
      exact ⟨fun _ => h, fun q => absurd rfl q⟩
    rw [if_neg c] at h
    obtain ⟨l, hl, rfl⟩ := ladX hg.1 c
    have hl6 : l < 6 := Nat.lt_of_lt_of_le hl hg.1
    rw [nI_clamp (show l < 2 ^ 31 by omega)] at h
    refine ⟨fun q => absurd q (by decide), fun _ => wm_of (k := 5) hl6 (by omega) ?_⟩
    rw [(hT.z.1 l hl).1]
    refine ⟨fun c2 => ?_, fun c2 => ?_⟩
    · rw [if_pos c2] at h
      refine wm_tokens (k := 0) hr hT (by omega) ?_
      have htk := hr.2.1 (3 * r.tu) (by omega)
      rw [Nat.add_zero, eq0 (by omega)]
      refine ⟨fun c3 => ?_, fun c3 => ?_⟩
      · rw [if_pos c3] at h; exact h
      · rw [if_neg c3] at h; exact h
    · rw [if_neg c2] at h; exact h
  · rw [if_pos (by simpa using c)] at h; exact h
theorem wm_whyLock {w : Wd} {b : Nat} {g : Gm} {r : Rs} {x y : Int32} {Post : Int32 → Wd → Prop} (hg : g.ok) (hr : r.ok b g.n) (hT : TD w 18 0 g r) (h : Post (whyL g r x y) w) : wp_X9_whyLock w x y Post := by
  have hG := hT.lg
  have ht := hr.1
  unfold wp_X9_whyLock
  unfold whyL at h
  refine wm_isOver hg hG ?_
  rw [bI_0]
  refine ⟨fun c => ?_, fun c => ?_⟩
  · rw [if_neg (by rw [c]; decide)] at h
    refine wm_isLadder hg hG (fun c => ?_) (fun c => ?_)
    · rw [if_pos c] at h
      exact ⟨fun _ => h, fun q => absurd rfl q⟩
    rw [if_neg c] at h
    obtain ⟨l, hl, rfl⟩ := ladX hg.1 c
    have hl6 : l < 6 := Nat.lt_of_lt_of_le hl hg.1
    obtain ⟨b1, b2, b3, b4, b5, b6, b7, b8, b9, b10⟩ := hg.2 l hl
    obtain ⟨a1, a2, a3, a4, a5⟩ := hG.2 l hl
    have hc := g.co13 hg hl
    rw [nI_clamp (show l < 2 ^ 31 by omega)] at h
    refine ⟨fun q => absurd q (by decide), fun _ => wm_of (k := 0) hl6 (by omega) ?_⟩
    rw [a1]
    refine wm_within (fun c1 => ?_) (fun c1 => ?_)
    · rw [if_pos c1] at h
      exact ⟨fun _ => h, fun q => absurd rfl q⟩
    rw [if_neg c1] at h
    obtain ⟨hN, h1, h2, rfl⟩ := rng (a := 1) (by omega) (by omega) (fun q => c1 (Or.inl q)) (fun q => c1 (Or.inr q))
    rw [nI_clamp (show hN < 2 ^ 31 by omega)] at h
    refine ⟨fun q => absurd q (by decide), fun _ => wm_of (k := 3) hl6 (by omega) ?_⟩
    rw [a4]
    refine wh_has (lt31 b6) (by omega) ?_
    rw [bI_0]
    refine ⟨fun c3 => wm_of (k := 2) hl6 (by omega) ?_, fun c3 => ?_⟩
    · rw [if_neg (by rw [c3]; decide)] at h
      rw [a3]
      refine wh_has (lt31 hc) (by omega) ?_
      rw [bI_0]
      refine ⟨fun c4 => ?_, fun c4 => ?_⟩
      · rw [if_neg (by rw [c4]; decide)] at h
        refine wm_tokens (k := 1) hr hT (by omega) ?_
        have htk := hr.2.1 (3 * r.tu + 1) (by omega)
        rw [eq0 (by omega)]
        refine ⟨fun c5 => ?_, fun c5 => ?_⟩
        · rw [if_pos c5] at h; exact h
        · rw [if_neg c5] at h; exact h
      · rw [if_pos (by simpa using c4)] at h; exact h
    · rw [if_pos (by simpa using c3)] at h; exact h
  · rw [if_pos (by simpa using c)] at h; exact h
theorem log_ix {a q : Nat} (h : a < 2 ^ 30) : (60 + (5 * (nI a - nI a / 16 * 16))) + nI q = nI (60 + (rowN a + q)) := by
  have e : nI a - nI a / 16 * 16 = nI (a % 16) := pk_rem (a := a) (d := 16) (by omega) (by omega) (by omega)
  rw [e, show (60 + (5 * nI (a % 16))) + nI q = (nI 60 + (nI 5 * nI (a % 16))) + nI q from rfl, pk_mul, nI_add, nI_add]
  unfold rowN
  exact congrArg nI (by omega)
theorem wm_latest {w : Wd} {b q : Nat} {g : Gm} {r : Rs} {Post : Int32 → Wd → Prop} (hr : r.ok b g.n) (hb : b < 2 ^ 30) (hT : TD w 18 0 g r) (ha : 0 < r.ac) (hq : q < 5) (h : Post (r.lg (rowN (r.ac - 1) + q)) w) : wp_X9_latest w (nI q) Post := by
  have hab := hr.2.2.2
  obtain ⟨t1, t2, t3, t4, t5, t6, t7⟩ := hT.z
  have hrow := rowN_lt (r.ac - 1)
  unfold wp_X9_latest
  rw [t4, show nI r.ac - 1 = nI (r.ac - 1) from pk_sub (b := 1) ha, log_ix (by omega), nI_clamp (by omega), t7 _ (by omega) (rowN_ok (by omega) hq)]
  exact ⟨pk_in (60 + (rowN (r.ac - 1) + q)) 140 (by omega), h⟩
theorem past_no {r : Rs} (ha : r.ac = 0) (q : Nat) : pastS r 0 q = -1 := by
  unfold pastS
  rw [ha]
  exact if_pos (Or.inr (by decide))
theorem wm_whyBack {w : Wd} {b : Nat} {g : Gm} {r : Rs} {Post : Int32 → Wd → Prop} (hr : r.ok b g.n) (hb : b < 2 ^ 30) (hT : TD w 18 0 g r) (h : Post (whyB r) w) : wp_X9_whyBack w Post := by
  have hab := hr.2.2.2
  have ht := hr.1
  unfold wp_X9_whyBack
  rw [hT.z.2.2.2.1, eq0 (by omega)]
  unfold whyB at h
  refine ⟨fun c => ?_, fun c => ?_⟩
  · rw [past_no c, if_neg (by decide)] at h
    exact h
  · rw [past0 (q := 0) hr hb (by omega)] at h
    refine wm_latest (q := 0) hr hb hT (by omega) (by omega) ⟨fun c2 => ?_, fun c2 => ?_⟩
    · rw [if_pos c2] at h
      refine wm_tokens (k := 2) hr hT (by omega) ?_
      have htk := hr.2.1 (3 * r.tu + 2) (by omega)
      rw [eq0 (by omega)]
      refine ⟨fun c5 => ?_, fun c5 => ?_⟩
      · rw [if_pos c5] at h; exact h
      · rw [if_neg c5] at h; exact h
    · rw [if_neg c2] at h; exact h

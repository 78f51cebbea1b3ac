/-! the model: values and longest ways of all sets of a ladder -/
def LD (w : Wd) (g : Gm) (l : Nat) : Prop := ∀ m, m < 2 ^ (g.top l + 1) → m.testBit 0 = false → pop m ≤ g.cn l → gA w 22 m = nI (val (g.lk l) (g.sz l) m) ∧ gA w 23 m = nI (lng (g.lk l) (g.sz l) m)
/-- only the tables of values and ways changed -/
def FrL (w w' : Wd) : Prop := (∀ o s, gI w' o s = gI w o s) ∧ (∀ o i, o ≠ 22 → o ≠ 23 → gA w' o i = gA w o i)
theorem FrL.rf (w : Wd) : FrL w w := ⟨fun _ _ => rfl, fun _ _ _ _ => rfl⟩
theorem FrL.tr {a b c : Wd} (h : FrL a b) (g : FrL b c) : FrL a c := ⟨fun o s => (g.1 o s).trans (h.1 o s), fun o i q r => (g.2 o i q r).trans (h.2 o i q r)⟩
theorem FrL.M {w w' : Wd} (h : FrL w w') : FrM w w' := ⟨fun o s _ => h.1 o s, fun o i q r _ => h.2 o i q r⟩
theorem FrM.e18 {w w' : Wd} (h : FrM w w') : ∀ i, gA w' 18 i = gA w 18 i := fun i => h.2 18 i (by decide) (by decide) (by decide)
theorem FrL.s22 (w : Wd) (i j : Nat) (x y : Int32) : FrL w (sA (sA w 22 i x) 23 j y) := ⟨fun _ _ => rfl, fun o k h1 h2 => by rw [gA_sA, if_neg (fun c => h2 c.1), gA_sA, if_neg (fun c => h1 c.1)]⟩
theorem FrL.e18 {w w' : Wd} (h : FrL w w') : ∀ i, gA w' 18 i = gA w 18 i := fun i => h.2 18 i (by decide) (by decide)
theorem even_0 {m : Nat} (h : m.testBit 0 = false) : ∃ i, m = 2 * i := by
  rw [Nat.testBit_zero, decide_eq_false_iff_not] at h
  exact ⟨m / 2, by omega⟩
theorem tb0_2 (i : Nat) : (2 * i).testBit 0 = false := by
  rw [Nat.testBit_zero, decide_eq_false_iff_not]
  omega
theorem wm_lays {w : Wd} {g : Gm} {l : Nat} {Post : Wd → Prop} (hg : g.ok) (hG : LG w g) (hl : l < g.n) (h : ∀ w', FrL w w' → LD w' g l → Post w') : wp_X9_lays w (nI l) Post := by
  obtain ⟨b1, b2, b3, b4, b5, b6, b7, b8, b9, b10⟩ := hg.2 l hl
  obtain ⟨a1, a2, a3, a4, a5⟩ := hG.2 l hl
  have hl6 : l < 6 := Nat.lt_of_lt_of_le hl hg.1
  have h13 : 2 ^ (g.top l + 1) ≤ 8192 := Nat.le_trans (Nat.pow_le_pow_right (by decide) (show g.top l + 1 ≤ 13 by omega)) (by decide)
  have hE : 2 ^ (g.top l + 1) = 2 * 2 ^ g.top l := by rw [Nat.pow_succ, Nat.mul_comm]
  unfold wp_X9_lays
  intro J hJ
  refine wm_of (k := 0) hl6 (by omega) ?_
  rw [a1]
  intro y1 e1
  have e1' : y1 = nI (2 ^ (g.top l + 1)) := by
    rw [e1, hE]
    exact pk_shlN (n := 2) (nI (g.top l) &&& 31) (g.top l) (s_l _ (by omega)) (by omega)
  subst e1'
  have key : ∀ k i, i + k = 2 ^ g.top l → ∀ w', FrL w w' → (∀ m, m < 2 * i → m.testBit 0 = false → pop m ≤ g.cn l → gA w' 22 m = nI (val (g.lk l) (g.sz l) m) ∧ gA w' 23 m = nI (lng (g.lk l) (g.sz l) m)) → J (nI (2 ^ (g.top l + 1))) (nI (2 * i)) w' := by
    intro k
    induction k with
    | zero =>
      intro i hi w' hF hv
      refine hJ _ _ _ ⟨fun _ => h w' hF (fun m hm h0 hp => hv m (by omega) h0 hp), fun c => ?_⟩
      simp (disch := omega) only [nI_leI] at c
      omega
    | succ k ih =>
      intro i hi w' hF hv
      have ih' := ih (i + 1) (by omega)
      have hy : ∀ y, y = nI (2 * i) + 2 → y = nI (2 * (i + 1)) := fun y e => by
        rw [e, show nI (2 * i) + 2 = nI (2 * i + 2) from nI_pL _ 2]
        exact congrArg nI (by omega)
      have hG' := hG.fr hF.e18
      refine hJ _ _ _ ⟨fun c => ?_, fun _ => ?_⟩
      · simp (disch := omega) only [nI_leI] at c
        omega
      refine wh_bits (by omega) ?_
      refine wm_of (k := 1) hl6 (by omega) ?_
      rw [(hG'.2 l hl).2.1]
      have hpm := pop_le (2 * i)
      refine ⟨fun c y e => ?_, fun c => ?_⟩
      · simp (disch := omega) only [nI_ltI] at c
        rw [hy y e]
        refine ih' w' hF (fun m hm h0 hp => ?_)
        rcases Nat.lt_or_ge m (2 * i) with q | q
        · exact hv m q h0 hp
        · obtain ⟨j, rfl⟩ := even_0 h0
          obtain rfl : j = i := by omega
          omega
      · simp (disch := omega) only [nI_ltI] at c
        refine wm_laysOne hg hG' hl (m := 2 * i) (by omega) (tb0_2 i) (by omega) (fun x hx => ?_) (fun y e => ?_)
        · obtain ⟨p1, p2, p3⟩ := nxs_pos (isPos_of (by omega) (tb0_2 i) (by omega)) hx
          obtain ⟨q1, q2⟩ := nxs_lt (tb0_2 i) hx
          exact hv x q1 q2 (by omega)
        · rw [hy y e]
          refine ih' _ (hF.tr (FrL.s22 _ _ _ _ _)) (fun m hm h0 hp => ?_)
          by_cases q : m = 2 * i
          · rw [q, gA_sA, if_neg (by omega), gA_sA, if_pos ⟨rfl, rfl⟩, gA_sA, if_pos ⟨rfl, rfl⟩]
            exact ⟨rfl, rfl⟩
          · rw [gA_sA, if_neg (by omega), gA_sA, if_neg (fun c => q c.2), gA_sA, if_neg (fun c => q c.2), gA_sA, if_neg (by omega)]
            obtain ⟨j, rfl⟩ := even_0 h0
            exact hv _ (by omega) h0 hp
  exact key (2 ^ g.top l) 0 (Nat.zero_add _) w (FrL.rf w) (fun m hm => absurd hm (by omega))
theorem Gm.coT {g : Gm} (hg : g.ok) {l : Nat} (hl : l < g.n) : g.co l < 2 ^ (g.top l + 1) ∧ (g.co l).testBit 0 = false ∧ pop (g.co l) ≤ g.cn l := by
  obtain ⟨b1, b2, b3, b4, b5, b6, b7, b8, b9, b10⟩ := hg.2 l hl
  exact ⟨b8, b9, b10⟩
theorem wm_worthOf {w : Wd} {g : Gm} {l : Nat} {Post : Int32 → Wd → Prop} (hg : g.ok) (hG : LG w g) (hl : l < g.n) (h : ∀ w', FrL w w' → LD w' g l → Post (nI (vNow g l)) w') : wp_X9_worthOf w (nI l) Post := by
  have hl6 : l < 6 := Nat.lt_of_lt_of_le hl hg.1
  obtain ⟨c1, c2, c3⟩ := g.coT hg hl
  have hc := g.co13 hg hl
  unfold wp_X9_worthOf
  refine wm_lays hg hG hl (fun w' hF hL => wm_of (k := 2) hl6 (by omega) ?_)
  rw [((hG.fr hF.e18).2 l hl).2.2.1, nI_clamp (by omega), (hL _ c1 c2 c3).1]
  exact ⟨pk_in (g.co l) 8192 hc, h w' hF hL⟩
theorem wm_sumNow {w : Wd} {g : Gm} {Post : Int32 → Wd → Prop} (hg : g.ok) (hG : LG w g) (h : ∀ w', FrL w w' → Post (nI (sumTo g g.n)) w') : wp_X9_sumNow w Post := by
  unfold wp_X9_sumNow wp_X9_ladders
  intro J hJ
  have hn := hg.1
  have key : ∀ k l, l + k = g.n → ∀ w', FrL w w' → J (nI (sumTo g l)) (nI l) w' := by
    intro k
    induction k with
    | zero =>
      intro l hl w' hF
      obtain rfl : l = g.n := by omega
      refine hJ _ _ _ ⟨fun _ => h w' hF, fun c => ?_⟩
      rw [(hG.fr hF.e18).1] at c
      simp (disch := omega) only [nI_leI] at c
      omega
    | succ k ih =>
      intro l hl w' hF
      refine hJ _ _ _ ⟨fun c => ?_, fun _ => ?_⟩
      · rw [(hG.fr hF.e18).1] at c
        simp (disch := omega) only [nI_leI] at c
        omega
      · refine wm_worthOf hg (hG.fr hF.e18) (by omega) (fun w2 hF2 _ => ?_)
        intro y1 e1 y2 e2
        subst e1 e2
        rw [fb_xorI, nI_1]
        exact ih (l + 1) (by omega) w2 (hF.tr hF2)
  exact key g.n 0 (by omega) w (FrL.rf w)
set_option maxHeartbeats 4000000 in
theorem wm_stepsFrom {w : Wd} {g : Gm} {l : Nat} {Post : Int32 → Wd → Prop} (hg : g.ok) (hG : LG w g) (hl : l < g.n) (h : Post (nI (stG g l)) w) : wp_X9_stepsFrom w (nI l) (nI (g.co l)) Post := by
  obtain ⟨b1, b2, b3, b4, b5, b6, b7, b8, b9, b10⟩ := hg.2 l hl
  obtain ⟨a1, a2, a3, a4, a5⟩ := hG.2 l hl
  have hl6 : l < 6 := Nat.lt_of_lt_of_le hl hg.1
  have hm13 := g.co13 hg hl
  have hlen : (nA (g.lk l) (g.sz l) (g.co l) (g.top l)).length = stG g l := len_nA b8 b9 b2
  have hlt := stG_lt g l
  unfold wp_X9_stepsFrom
  intro J5 J19 h5 h19
  have outer : ∀ k, k ≤ g.top l → ∀ c, c + (nH (g.lk l) (g.sz l) (g.co l) (g.top l) k).length = stG g l → J5 (nI c) (nI (g.top l + 1 - k)) w := by
    intro k
    induction k with
    | zero =>
      intro _ c hc
      refine h5 _ _ _ (wm_of (k := 0) hl6 (by omega) ?_)
      rw [a1]
      refine ⟨fun _ => ?_, fun c => ?_⟩
      · rw [show c = stG g l by rw [← hc]; simp [nH]]
        exact h
      · simp (disch := omega) only [nI_ltI] at c
        omega
    | succ k ih =>
      intro hk c hc
      have ih' := ih (by omega)
      rw [show g.top l + 1 - k = g.top l - k + 1 by omega] at ih'
      rw [show g.top l + 1 - (k + 1) = g.top l - k by omega]
      rw [nH, List.length_append] at hc
      generalize hh : g.top l - k = hi at ih' hc
      have nxt : ∀ c, c + (nH (g.lk l) (g.sz l) (g.co l) (g.top l) k).length = stG g l → ∀ y, y = nI hi + 1 → J5 (nI c) y w := by
        intro c hc y e
        subst e
        rw [nI_1]
        exact ih' c hc
      have inner : ∀ k', k' ≤ 12 → ∀ c, c + ((nS (g.lk l) (g.sz l) (g.co l) hi k').length + (nH (g.lk l) (g.sz l) (g.co l) (g.top l) k).length) = stG g l → J19 (nI c) (nI hi) (nI (13 - k')) w := by
        intro k'
        induction k' with
        | zero =>
          intro _ c hc
          exact h19 _ _ _ _ ⟨fun _ => nxt c (by simpa [nS] using hc), fun c => absurd (by decide) c⟩
        | succ k' ihk =>
          intro hk' c hc
          have ihk' := ihk (by omega)
          rw [show 13 - k' = 12 - k' + 1 by omega] at ihk'
          rw [show 13 - (k' + 1) = 12 - k' by omega]
          have hs1 : 1 ≤ 12 - k' := by omega
          have hs2 : 12 - k' ≤ 12 := by omega
          rw [nS, List.length_append] at hc
          generalize hs : 12 - k' = s at ihk' hc hs1 hs2
          refine h19 _ _ _ _ ⟨fun c => ?_, fun _ => wh_has (lt31 hm13) (by omega) ?_⟩
          · simp (disch := omega) only [fa_lit, nI_ltI] at c
            omega
          rw [bI_0]
          refine ⟨fun c2 => ?_, fun c2 => ?_⟩
          · refine nxt c ?_
            rw [nS_nil c2, if_neg (fun q => by rw [(okS_sp q).1] at c2; cases c2), List.length_nil] at hc
            omega
          · have hbit : (g.co l).testBit hi = true := by simpa using c2
            refine wm_of (k := 4) hl6 (by omega) ?_
            rw [a5]
            refine wh_has (lt31 b4) (by omega) ?_
            rw [bI_0]
            have skip : ¬ okS (g.lk l) (g.sz l) (g.co l) hi s = true → ∀ y1, y1 = nI c + 0 → ∀ y, y = nI s + 1 → J19 y1 (nI hi) y w := by
              intro hn y1 e1 y e
              subst e e1
              rw [nI_1, nI_p0]
              rw [if_neg hn, List.length_nil] at hc
              exact ihk' c (by omega)
            refine ⟨fun c2 => skip (fun q => by rw [(okS_sp q).2.1] at c2; cases c2), fun c2 => ?_⟩
            have hzb : (g.sz l).testBit s = true := by simpa using c2
            refine wm_behind hl6 a4 b6 b7 hm13 b9 (by omega) ⟨hs1, by omega⟩ hbit ?_
            obtain ⟨bo, bn⟩ := bhM_ok (l := g.lk l) (z := g.sz l) (m := g.co l) (h := hi) (s := s) hbit hzb
            by_cases hok : okS (g.lk l) (g.sz l) (g.co l) hi s = true
            · rw [bo hok]
              have hx : nx (g.co l) hi s ∈ nxs (g.lk l) (g.sz l) (g.co l) := mem_nxs.mpr ⟨hi, s, by omega, hs1, hs2, hok, rfl⟩
              have x1 := (isPos_sp (nxs_pos (g.pos hg hl) hx).1).1
              refine ⟨fun c3 => absurd c3 (n1_ne (by omega)), fun _ y7 e7 y8 e8 => ?_⟩
              subst e7 e8
              rw [nI_1, nI_1]
              rw [if_pos hok, List.length_singleton] at hc
              exact ihk' (c + 1) (by omega)
            · rw [bn hok]
              exact ⟨fun _ => skip hok, fun c3 => absurd rfl c3⟩
      refine h5 _ _ _ (wm_of (k := 0) hl6 (by omega) ?_)
      rw [a1]
      refine ⟨fun c => ?_, fun _ => inner 12 (by omega) c (by omega)⟩
      simp (disch := omega) only [nI_ltI] at c
      omega
  have := outer (g.top l) (Nat.le_refl _) 0 (by rw [Nat.zero_add]; exact hlen)
  rw [show g.top l + 1 - g.top l = 1 by omega] at this
  exact this
theorem wm_isOver {w : Wd} {g : Gm} {Post : Int32 → Wd → Prop} (hg : g.ok) (hG : LG w g) (h : Post (bI (ovB g)) w) : wp_X9_isOver w Post := by
  unfold wp_X9_isOver wp_X9_ladders
  intro J hJ
  have hn := hg.1
  have key : ∀ k l, l + k = g.n → (∀ j, j < l → stG g j = 0) → J (nI l) w := by
    intro k
    induction k with
    | zero =>
      intro l hl hz
      obtain rfl : l = g.n := by omega
      refine hJ _ _ ⟨fun _ => ?_, fun c => ?_⟩
      · rw [show ovB g = true from decide_eq_true hz] at h
        exact h
      · rw [hG.1] at c
        simp (disch := omega) only [nI_leI] at c
        omega
    | succ k ih =>
      intro l hl hz
      have hln : l < g.n := by omega
      have hlt := stG_lt g l
      refine hJ _ _ ⟨fun c => ?_, fun _ => ?_⟩
      · rw [hG.1] at c
        simp (disch := omega) only [nI_leI] at c
        omega
      · refine wm_of (k := 2) (by omega) (by omega) ?_
        rw [(hG.2 l hln).2.2.1]
        refine wm_stepsFrom hg hG hln ⟨fun c y e => ?_, fun c => ?_⟩
        · rw [le0 hlt] at c
          subst e
          rw [nI_1]
          refine ih (l + 1) (by omega) (fun j hj => ?_)
          rcases Nat.lt_or_ge j l with q | q
          · exact hz j q
          · obtain rfl : j = l := by omega
            exact c
        · rw [le0 hlt] at c
          rw [show ovB g = false from decide_eq_false (fun q => c (q l hln))] at h
          exact h
  exact key g.n 0 (by omega) (fun j hj => absurd hj (Nat.not_lt_zero j))

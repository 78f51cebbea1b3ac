/-! the class's other calls -/
theorem Sy.ok.hr {b : Nat} {S : Sy} (h : S.ok b) : S.r.ok b S.g.n := h.1.2.1
theorem Sy.ok.hg {b : Nat} {S : Sy} (h : S.ok b) : S.g.ok := h.1.1
theorem Ps.ok.hr {b : Nat} {p : Ps} (h : p.ok b) : p.2.ok b p.1.n := h.2.1
def sumA (S : Sy) : An := (0, nI (sumTo S.g S.g.n), S)
theorem cc_sum {w : Wd} {b : Nat} {S : Sy} {Post : Int32 → Wd → Prop} (hS : S.ok b) (hC : CI w S) (h : CN Post (sumA S)) : wp_X8_sum w Post := by
  have hg : S.g.ok := hS.1.1
  unfold wp_X8_sum
  exact wh_sumNow hg hC.1 (fun w' hG hF => h w' (hC.fr hG hF.W))
/-- an answer about a ladder -/
def ldA (S : Sy) (x : Int32) (v : Nat → Int32) : An := if x < 0 ∨ nI S.g.n ≤ x then (1, 0, S) else (0, v x.toNatClampNeg, S)
def stoV (S : Sy) (l : Nat) : Int32 := nI (stG S.g l)
theorem cc_stepsOn {w : Wd} {b : Nat} {S : Sy} {x : Int32} {Post : Int32 → Wd → Prop} (hS : S.ok b) (hC : CI w S) (h : CL Post (ldA S x (stoV S))) : wp_L_stepsOn w x Post := by
  have hg : S.g.ok := hS.1.1
  unfold wp_L_stepsOn wp_X8_stepsOn
  unfold ldA at h
  refine wh_checkLadder hg hC.1 (fun c => ⟨rfl, ?_⟩) (fun l hl e c => ?_)
  · rw [if_pos c] at h
    exact h.bad (by decide) hC
  rw [if_neg c] at h
  subst e
  have hl6 : l < 6 := Nat.lt_of_lt_of_le hl hg.1
  rw [nI_clamp (by omega)] at h
  exact wh_countSteps hg hC.1 hl (h.ok hC)
def lonV (S : Sy) (l : Nat) : Int32 := nI (lng (S.g.lk l) (S.g.sz l) (S.g.co l))
theorem cc_longest {w : Wd} {b : Nat} {S : Sy} {x : Int32} {Post : Int32 → Wd → Prop} (hS : S.ok b) (hC : CI w S) (h : CL Post (ldA S x (lonV S))) : wp_L_longest w x Post := by
  have hg : S.g.ok := hS.1.1
  unfold wp_L_longest wp_X8_longest
  unfold ldA at h
  refine wh_checkLadder hg hC.1 (fun c => ⟨rfl, ?_⟩) (fun l hl e c => ?_)
  · rw [if_pos c] at h
    exact h.bad (by decide) hC
  rw [if_neg c] at h
  subst e
  have hl6 : l < 6 := Nat.lt_of_lt_of_le hl hg.1
  rw [nI_clamp (by omega)] at h
  exact wh_exploreG hg hC.1 hl (fun w' D hG hF hD hr => wh_farthest (S.g.pos hg hl) hD hr (h.ok (hC.fr hG hF)))
noncomputable def posV (S : Sy) (l : Nat) : Int32 := nI (cntR (S.g.lk l) (S.g.sz l) (S.g.co l))
theorem cc_positions {w : Wd} {b : Nat} {S : Sy} {x : Int32} {Post : Int32 → Wd → Prop} (hS : S.ok b) (hC : CI w S) (h : CL Post (ldA S x (posV S))) : wp_L_positions w x Post := by
  have hg : S.g.ok := hS.1.1
  unfold wp_L_positions wp_X8_positions
  unfold ldA at h
  refine wh_checkLadder hg hC.1 (fun c => ⟨rfl, ?_⟩) (fun l hl e c => ?_)
  · rw [if_pos c] at h
    exact h.bad (by decide) hC
  rw [if_neg c] at h
  subst e
  have hl6 : l < 6 := Nat.lt_of_lt_of_le hl hg.1
  rw [nI_clamp (by omega)] at h
  exact wh_exploreG hg hC.1 hl (fun w' D hG hF hD hr => wh_countPositions (S.g.pos hg hl) hD hr (h.ok (hC.fr hG hF)))
theorem CI.sD {w : Wd} {S : Sy} (h : CI w S) (x : UInt64) : CI (sD w 26 0 x) S := by
  obtain ⟨hG, hR, ⟨nx, n1, n2, n3, n4⟩, hT, hB⟩ := h
  exact ⟨hG.of (fun _ => rfl) (fun _ _ _ _ => rfl) (fun _ _ _ _ => rfl), hR.of (fun _ _ _ _ => rfl) (fun _ => rfl), ⟨nx, n1, n2, n3, fun i hi => ⟨(n4 i hi).1.of (fun _ _ _ _ => rfl), (n4 i hi).2.of (fun _ _ _ _ => rfl) (fun _ => rfl)⟩⟩, fun k hk => ⟨(hT k hk).1, fun hs => ⟨((hT k hk).2 hs).1.of (fun _ _ _ _ => rfl), ((hT k hk).2 hs).2.of (fun _ _ _ _ => rfl) (fun _ => rfl)⟩⟩, hB⟩
theorem cc_meanValue {w : Wd} {b : Nat} {S : Sy} {x : Int32} {Post : Int32 → Wd → Prop} (hS : S.ok b) (hC : CI w S) (h0 : (x < 0 ∨ nI S.g.n ≤ x) → Post 1 w) (h1 : ∀ l w', l < S.g.n → x = nI l → ¬ (x < 0 ∨ nI S.g.n ≤ x) → CI w' S → gD w' 26 0 = mnD (S.g.lk l) (S.g.sz l) (S.g.co l) → Post 0 w') : wp_L_meanValue w x Post := by
  have hg : S.g.ok := hS.1.1
  unfold wp_L_meanValue wp_X8_meanValue
  refine wh_checkLadder hg hC.1 (fun c => ⟨rfl, h0 c⟩) (fun l hl e c => ?_)
  subst e
  have hm := S.g.pos hg hl
  have hz := (hg.2 l hl).2.2.2.2.1
  refine wh_exploreG hg hC.1 hl (fun w' D hG hF hD hr => ?_)
  have hC1 := hC.fr hG hF
  refine wh_sumOfReached hg hG hl hD hr (fun w2 hG2 hF2 hD2 y1 e1 => ?_)
  have hC2 := hC1.fr hG2 hF2
  subst e1
  refine wh_countPositions hm hD2 hr ?_
  have hc := cntR_le (S.g.lk l) (S.g.sz l) (S.g.co l)
  have hp := cntR_pos (l := S.g.lk l) (z := S.g.sz l) hm
  refine ⟨fun q => absurd (nI_inj (b := 0) (by omega) (by omega) q) hp, fun _ => ⟨vf_of (mnD_ok hm hz), ?_⟩⟩
  exact h1 l _ hl rfl c (hC2.sD _) (by rw [gD_sD, if_pos ⟨rfl, rfl⟩]; rfl)
def oneA (S : Sy) : An := (0, 1, S)
theorem cc_isRight {w : Wd} {b : Nat} {S : Sy} {Post : Int32 → Wd → Prop} (hS : S.ok b) (hC : CI w S) (h : CN Post (oneA S)) : wp_X8_isRight w Post := by
  have hg : S.g.ok := hS.1.1
  exact wh_isRight hg hC.1 (fun w' hG hF => h w' (hC.fr hG hF.W))
def allA (S : Sy) : An := (0, nI (chs S.g S.r).length, S)
theorem cc_allowed {w : Wd} {b : Nat} {S : Sy} {Post : Int32 → Wd → Prop} (hS : S.ok b) (hC : CI w S) (h : CN Post (allA S)) : wp_X8_allowed w Post := by
  have hg : S.g.ok := hS.1.1
  unfold wp_X8_allowed
  exact wh_listChoices hg hS.hr hC.1 hC.2.1 (fun w' hG hF _ => h w' (hC.fr hG hF))
def besA (S : Sy) : An := (0, bestS S.g S.r, S)
theorem cc_best {w : Wd} {b : Nat} {S : Sy} {Post : Int32 → Wd → Prop} (hS : S.ok b) (hC : CI w S) (h : CN Post (besA S)) : wp_X8_best w Post := by
  have hg : S.g.ok := hS.1.1
  unfold wp_X8_best
  refine wh_listChoices hg hS.hr hC.1 hC.2.1 (fun w1 hG1 hF1 hCh => ?_)
  refine wh_sumNow hg hG1 (fun w2 hG2 hF2 => ?_)
  refine wh_firstWinning hg hG2 (okCh_fr hCh hF2) (fun w3 hG3 hF3 => ?_)
  exact h w3 (((hC.fr hG1 hF1).fr hG2 hF2.W).fr hG3 hF3.W)
def choV (S : Sy) (c : Cho) (y : Int32) : Int32 := if y = nI 0 then nI c.1 else if y = nI 1 then nI c.2.1 else if y = nI 2 then nI c.2.2 else nI (sumTo S.g S.g.n) ^^^ nI (vNow S.g c.1 ^^^ vB S.g c)
def choA (S : Sy) (x y : Int32) : An := if x < 0 ∨ nI (chs S.g S.r).length ≤ x then (1, 0, S) else if y < 0 ∨ nI 3 < y then (2, 0, S) else (0, choV S ((chs S.g S.r).getD x.toNatClampNeg (0, 0, 0)) y, S)
def wnsA (S : Sy) (x y z : Int32) : An := (0, whyF S.g S.r x y z, S)
def wncA (S : Sy) (x : Int32) : An := (0, whyC S.g S.r x, S)
def wnlA (S : Sy) (x y : Int32) : An := (0, whyL S.g S.r x y, S)
def wnbA (S : Sy) : An := (0, whyB S.r, S)
/-! the calls that change -/
theorem CI.chg {w w' : Wd} {S : Sy} {p : Ps} (h : CI w S) (hF : FrG w w') (hG : GC w' p.1) (hR : CR w' 0 p.1.n p.2) : CI w' (S.sp p) := by
  obtain ⟨_, _, ⟨nx, n1, n2, n3, n4⟩, hT, hB⟩ := h
  exact ⟨hG, hR, ⟨nx, n1, (hF.1 11 3 (by omega)).trans n2, (hF.1 11 4 (by omega)).trans n3, fun i hi => ⟨(n4 i hi).1.of (fun o j q q2 => hF.2.1 o j (by omega)), (n4 i hi).2.of (fun o j q q2 => hF.2.1 o j (by omega)) (fun k => hF.1 _ k (by omega))⟩⟩, fun k hk => ⟨(hF.2.1 14 k (by omega)).trans (hT k hk).1, fun hs => ⟨((hT k hk).2 hs).1.of (fun o j q q2 => hF.2.1 o j (by omega)), ((hT k hk).2 hs).2.of (fun o j q q2 => hF.2.1 o j (by omega)) (fun k => hF.1 _ k (by omega))⟩⟩, (hF.1 1 1 (by omega)).trans hB.1, fun i hi => (hF.2.1 2 i (by omega)).trans (hB.2 i hi)⟩
theorem why0 {g : Gm} {r : Rs} {x y z : Int32} (hg : g.ok) (h : whyF g r x y z = 0) : ∃ l h s, x = nI l ∧ y = nI h ∧ z = nI s ∧ inC g r (l, h, s) := by
  unfold whyF at h
  by_cases c : ovB g = true
  · rw [if_pos c] at h
    exact absurd h (by decide)
  rw [if_neg c] at h
  have h2 := h
  unfold whyS at h2
  by_cases c0 : x < 0 ∨ nI g.n ≤ x
  · rw [if_pos c0] at h2
    exact absurd h2 (by decide)
  rw [if_neg c0] at h2
  obtain ⟨l, hl, rfl⟩ := ladX hg.1 c0
  have hl6 : l < 6 := Nat.lt_of_lt_of_le hl hg.1
  obtain ⟨b1, b2, _⟩ := hg.2 l hl
  rw [nI_clamp (by omega)] at h2
  by_cases c1 : y < 1 ∨ nI (g.top l) < y ∨ (g.co l).testBit y.toNatClampNeg = false
  · rw [if_pos c1] at h2
    exact absurd h2 (by decide)
  rw [if_neg c1] at h2
  obtain ⟨hh, h1, h3, rfl⟩ := rng (a := 1) (by omega) (by omega) (fun q => c1 (Or.inl q)) (fun q => c1 (Or.inr (Or.inl q)))
  by_cases c4 : z < 1 ∨ 12 < z ∨ (g.sz l).testBit z.toNatClampNeg = false
  · rw [if_pos c4] at h2
    exact absurd h2 (by decide)
  obtain ⟨s, s1, s2, rfl⟩ := rng (a := 1) (b := 12) (by omega) (by omega) (fun q => c4 (Or.inl q)) (fun q => c4 (Or.inr (Or.inl q)))
  exact ⟨l, hh, s, rfl, rfl, rfl, hl, h1, h3, s1, s2, (why_al hg hl h1 h3 s1 s2).mp h⟩
def stS (S : Sy) (x y z : Int32) : Sy := (keepS S).sp (stepP S.g S.r x.toNatClampNeg y.toNatClampNeg z.toNatClampNeg)
def stpA (S : Sy) (x y z : Int32) : An := if whyF S.g S.r x y z = 0 then (0, nI (sumTo (stS S x y z).g (stS S x y z).g.n), stS S x y z) else (1, 0, S)
theorem whyC0 {g : Gm} {r : Rs} {x : Int32} (hg : g.ok) (h : whyC g r x = 0) : ∃ l, l < g.n ∧ x = nI l ∧ 0 < r.tk (3 * r.tu) := by
  unfold whyC at h
  by_cases c : ovB g = true
  · rw [if_pos c] at h
    exact absurd h (by decide)
  rw [if_neg c] at h
  by_cases c0 : x < 0 ∨ nI g.n ≤ x
  · rw [if_pos c0] at h
    exact absurd h (by decide)
  rw [if_neg c0] at h
  obtain ⟨l, hl, rfl⟩ := ladX hg.1 c0
  refine ⟨l, hl, rfl, ?_⟩
  by_cases c1 : r.ow (nI l).toNatClampNeg = -1
  · rw [if_pos c1] at h
    by_cases c2 : r.tk (3 * r.tu) = 0
    · rw [if_pos c2] at h
      exact absurd h (by decide)
    · omega
  · rw [if_neg c1] at h
    exact absurd h (by decide)
def clmA (S : Sy) (x : Int32) : An := if whyC S.g S.r x = 0 then (0, nI (S.r.tk (3 * S.r.tu) - 1), (keepS S).sp (claimP S.g S.r x.toNatClampNeg)) else (1, 0, S)
theorem whyL0 {g : Gm} {r : Rs} {x y : Int32} (hg : g.ok) (h : whyL g r x y = 0) : ∃ l hh, l < g.n ∧ x = nI l ∧ y = nI hh ∧ 1 ≤ hh ∧ hh ≤ g.top l ∧ 0 < r.tk (3 * r.tu + 1) := by
  unfold whyL at h
  by_cases c : ovB g = true
  · rw [if_pos c] at h
    exact absurd h (by decide)
  rw [if_neg c] at h
  by_cases c0 : x < 0 ∨ nI g.n ≤ x
  · rw [if_pos c0] at h
    exact absurd h (by decide)
  rw [if_neg c0] at h
  obtain ⟨l, hl, rfl⟩ := ladX hg.1 c0
  have hl6 : l < 6 := Nat.lt_of_lt_of_le hl hg.1
  obtain ⟨b1, b2, _⟩ := hg.2 l hl
  rw [nI_clamp (by omega)] at h
  by_cases c1 : y < 1 ∨ nI (g.top l) < y
  · rw [if_pos c1] at h
    exact absurd h (by decide)
  rw [if_neg c1] at h
  obtain ⟨hh, h1, h3, rfl⟩ := rng (a := 1) (by omega) (by omega) (fun q => c1 (Or.inl q)) (fun q => c1 (Or.inr q))
  refine ⟨l, hh, hl, rfl, rfl, h1, h3, ?_⟩
  by_cases c2 : (g.lk l).testBit (nI hh).toNatClampNeg = true
  · rw [if_pos c2] at h
    exact absurd h (by decide)
  rw [if_neg c2] at h
  by_cases c3 : (g.co l).testBit (nI hh).toNatClampNeg = true
  · rw [if_pos c3] at h
    exact absurd h (by decide)
  rw [if_neg c3] at h
  by_cases c4 : r.tk (3 * r.tu + 1) = 0
  · rw [if_pos c4] at h
    exact absurd h (by decide)
  · omega
def lokS (S : Sy) (x y : Int32) : Sy := (keepS S).sp (lockP S.g S.r x.toNatClampNeg y.toNatClampNeg)
def lokA (S : Sy) (x y : Int32) : An := if whyL S.g S.r x y = 0 then (0, nI (vNow (lokS S x y).g x.toNatClampNeg), lokS S x y) else (1, 0, S)
/-- the latest act's parts -/
def lastN (r : Rs) (q : Nat) : Nat := (r.lg (rowN (r.ac - 1) + q)).toNatClampNeg
def bakS (S : Sy) : Sy := (keepS S).sp (backP S.g S.r (lastN S.r 2) (lastN S.r 3) (lastN S.r 4))
def bakA (S : Sy) : An := if whyB S.r = 0 then (0, nI (sumTo (bakS S).g (bakS S).g.n), bakS S) else (1, 0, S)
theorem whyB0 {b : Nat} {g : Gm} {r : Rs} (hp : Ps.ok b (g, r)) (hb : b < 2 ^ 30) (h : whyB r = 0) : 0 < r.ac ∧ 0 < r.tk (3 * r.tu + 2) ∧ ∃ l hh s m, l < g.n ∧ r.lg (rowN (r.ac - 1) + 2) = nI l ∧ r.lg (rowN (r.ac - 1) + 3) = nI hh ∧ r.lg (rowN (r.ac - 1) + 4) = nI s ∧ lastN r 2 = l ∧ lastN r 3 = hh ∧ lastN r 4 = s ∧ 1 ≤ s ∧ s ≤ hh ∧ hh ≤ 12 ∧ okS (g.lk l) (g.sz l) m hh s = true ∧ g.co l = nx m hh s ∧ m < 2 ^ (g.top l + 1) ∧ m.testBit 0 = false ∧ pop m ≤ g.cn l := by
  obtain ⟨hg, hr, hlast⟩ := hp
  have hg : g.ok := hg
  have hr : r.ok b g.n := hr
  have hlast : lastOK g r := hlast
  unfold whyB at h
  by_cases c : pastS r 0 0 = 0
  · rw [if_pos c] at h
    by_cases c2 : r.tk (3 * r.tu + 2) = 0
    · rw [if_pos c2] at h
      exact absurd h (by decide)
    · have ha : 0 < r.ac := by
        rcases Nat.eq_zero_or_pos r.ac with q | q
        · rw [past_no q] at c
          exact absurd c (by decide)
        · exact q
      rw [past0 hr hb ha] at c
      obtain ⟨l, hh, s, m, e1, e2, e3, e4, e5, e6, e7, e8, e9, e10, e11⟩ := hlast ha c
      have hn := hg.1
      obtain ⟨b1, b2, _⟩ := hg.2 l e1
      obtain ⟨k1, k2, k3, k4, k5⟩ := okS_sp e7
      have hh12 : hh ≤ 12 := by
        rcases Nat.lt_or_ge 12 hh with q | q
        · rw [tb_top e9 (by omega)] at k1
          cases k1
        · exact q
      refine ⟨ha, by omega, l, hh, s, m, e1, e2, e3, e4, ?_, ?_, ?_, e5, k3, hh12, e7, e8, e9, e10, e11⟩
      · unfold lastN
        rw [e2, nI_clamp (by omega)]
      · unfold lastN
        rw [e3, nI_clamp (by omega)]
      · unfold lastN
        rw [e4, nI_clamp (by omega)]
  · rw [if_neg c] at h
    exact absurd h (by decide)
def pasA (S : Sy) : An := if ovB S.g = true then (1, 0, S) else if (chs S.g S.r).length = 0 then (0, nI (1 - S.r.tu), (keepS S).sp (passP S.g S.r)) else (1, 0, S)
theorem cc_pass {w : Wd} {b : Nat} {S : Sy} {Post : Int32 → Wd → Prop} (hS : S.ok b) (hb : b < 2 ^ 30) (hC : CI w S) (h : CL Post (pasA S)) : wp_L_pass w Post := by
  have hg : S.g.ok := hS.1.1
  have h72 := chs_len hg S.r
  unfold wp_L_pass wp_X8_pass
  unfold pasA at h
  refine wh_isOver hg hC.1 ?_
  rw [bI_0]
  refine ⟨fun c => ?_, fun c => ⟨rfl, ?_⟩⟩
  · rw [if_neg (by rw [c]; decide)] at h
    refine wh_listChoices hg hS.hr hC.1 hC.2.1 (fun w1 hG1 hF1 _ => ?_)
    have hC1 := hC.fr hG1 hF1
    rw [le0 (by omega)]
    refine ⟨fun c2 => ?_, fun c2 => ⟨rfl, ?_⟩⟩
    · rw [if_pos c2] at h
      refine wh_keep hS hC1 (fun w2 hC2 => ?_)
      refine wh_makePass (b := b) hg hS.hr hb hC2.1 hC2.2.1 (fun w3 hG3 hR3 hF3 => ?_)
      have e7 : gI w3 (53 + 8 * 0) 7 = nI (1 - S.r.tu) := hR3.2.2.1
      rw [e7]
      exact h.ok (hC2.chg (p := passP S.g S.r) hF3 hG3 hR3)
    · rw [if_neg c2] at h
      exact h.bad (by decide) hC1
  · rw [if_pos (by simpa using c)] at h
    exact h.bad (by decide) hC
/-- players act, k times at most: how often, and what is then -/
def plN : Nat → Ps → Nat × Ps
  | 0, p => (0, p)
  | k + 1, p => if ovB p.1 = true then (0, p) else ((plN k (playP p.1 p.2)).1 + 1, (plN k (playP p.1 p.2)).2)
theorem plN_ok : ∀ (k b : Nat) (p : Ps), p.ok b → (plN k p).2.ok (b + k) ∧ sameS p.1 (plN k p).2.1 ∧ (plN k p).1 ≤ k
  | 0, b, p, h => ⟨h, sameS.rf _, Nat.le_refl _⟩
  | k + 1, b, p, h => by
    rw [plN]
    by_cases c : ovB p.1 = true
    · rw [if_pos c]
      exact ⟨h.up (by omega), sameS.rf _, Nat.zero_le _⟩
    · rw [if_neg c]
      obtain ⟨h1, h2, h3⟩ := plN_ok k (b + 1) (playP p.1 p.2) (playP_ok (g := p.1) (r := p.2) h)
      refine ⟨h1.up (by omega), (playP_same p.1 p.2).tr h2, ?_⟩
      show (plN k (playP p.1 p.2)).1 + 1 ≤ k + 1
      omega
def plyA (S : Sy) (x : Int32) : An := if x < 1 ∨ 60 < x then (1, 0, S) else (0, nI (plN x.toNatClampNeg S.p).1, (keepS S).sp (plN x.toNatClampNeg S.p).2)
theorem cc_play {w : Wd} {b : Nat} {S : Sy} {x : Int32} {Post : Int32 → Wd → Prop} (hS : S.ok b) (hb : b + 60 < 2 ^ 30) (hC : CI w S) (h : CL Post (plyA S x)) : wp_L_play w x Post := by
  unfold wp_L_play wp_X8_play
  intro J hJ
  unfold plyA at h
  have bad : (x < 1 ∨ 60 < x) → Post 1 w := fun c => by
    rw [if_pos c] at h
    exact h.bad (by decide) hC
  refine ⟨fun c => ⟨rfl, bad (Or.inl c)⟩, fun c => ⟨fun c2 => ?_, fun c2 => ⟨rfl, bad (Or.inr (fa_of_nle c2))⟩⟩⟩
  have c2' : ¬ 60 < x := fun q => by
    rw [fa_le] at c2
    rw [fa_lt] at q
    omega
  obtain ⟨m, m1, m2, rfl⟩ := rng (a := 1) (b := 60) (by omega) (by omega) c c2'
  rw [if_neg (fun q => q.elim c c2'), nI_clamp (by omega)] at h
  refine wh_keep hS hC (fun w1 hC1 => ?_)
  have key : ∀ k i, i + k = m → ∀ p w', (plN k p).1 + i = (plN m S.p).1 → (plN k p).2 = (plN m S.p).2 → Ps.ok (b + i) p → CI w' ((keepS S).sp p) → J (nI i) w' := by
    intro k
    induction k with
    | zero =>
      intro i hi p w' e1 e2 hp hC'
      refine hJ _ _ ⟨fun _ => ?_, fun c => ?_⟩
      · rw [← e1, ← e2] at h
        have h : CL Post (0, nI (0 + i), (keepS S).sp p) := h
        rw [Nat.zero_add] at h
        exact h.ok hC'
      · simp (disch := omega) only [nI_leI] at c
        omega
    | succ k ih =>
      intro i hi p w' e1 e2 hp hC'
      have hg : p.1.ok := hp.1
      have h72 := chs_len hg p.2
      rw [plN] at e1 e2
      refine hJ _ _ ⟨fun c => ?_, fun _ => ?_⟩
      · simp (disch := omega) only [nI_leI] at c
        omega
      refine wh_isOver hg hC'.1 ?_
      rw [bI_0]
      refine ⟨fun c => ?_, fun c => ?_⟩
      · rw [if_neg (by rw [c]; decide)] at e1 e2
        have e1 : (plN k (playP p.1 p.2)).1 + 1 + i = (plN m S.p).1 := e1
        have e2 : (plN k (playP p.1 p.2)).2 = (plN m S.p).2 := e2
        refine wh_listChoices hg hp.2.1 hC'.1 hC'.2.1 (fun w3 hG3 hF3 hCh => ?_)
        have hC3 := hC'.fr hG3 hF3
        refine wh_sumNow hg hG3 (fun w4 hG4 hF4 => ?_)
        have hC4 := hC3.fr hG4 hF4.W
        refine wh_firstWinning hg hG4 (okCh_fr hCh hF4) (fun w5 hG5 hF5 => ?_)
        have hC5 := hC4.fr hG5 hF5.W
        refine wh_makeBestOrPass (b := b + i) hg hp.2.1 (by omega) hG5 hC5.2.1 (okCh_fr (okCh_fr hCh hF4) hF5) (fun w6 hG6 hR6 hF6 y e => ?_)
        subst e
        rw [nI_1]
        have hR6 : CR w6 0 (playP p.1 p.2).1.n (playP p.1 p.2).2 := by
          rw [(playP_same p.1 p.2).1]
          exact hR6
        exact ih (i + 1) (by omega) _ w6 (by omega) e2 (playP_ok (g := p.1) (r := p.2) hp) (hC5.chg (p := playP p.1 p.2) hF6 hG6 hR6)
      · rw [if_pos (by simpa using c)] at e1 e2
        have e1 : 0 + i = (plN m S.p).1 := e1
        have e2 : p = (plN m S.p).2 := e2
        rw [← e1, ← e2, Nat.zero_add] at h
        exact h.ok hC'
  exact key m 0 (Nat.zero_add _) S.p w1 (Nat.add_zero _) rfl hS.1 hC1
def undA (S : Sy) : An := if S.d = 0 then (0, -1, S) else (0, nI (S.d - 1), undoS S)
theorem cc_undo {w : Wd} {b : Nat} {S : Sy} {Post : Int32 → Wd → Prop} (hS : S.ok b) (hC : CI w S) (h : CN Post (undA S)) : wp_X8_undo w Post := by
  unfold wp_X8_undo
  unfold undA at h
  refine wh_goBack hS hC (fun c => ?_) (fun w' c hC' => ?_)
  · rw [if_pos c] at h
    exact h w hC
  · rw [if_neg (by omega)] at h
    exact h w' hC'
def savA (S : Sy) (x : Int32) : An := if x < 0 ∨ 1 < x then (0, 0, S) else (0, 1, saveS S x.toNatClampNeg)
def resA (S : Sy) (x : Int32) : An := if x < 0 ∨ 1 < x then (0, 0, S) else if S.sv x.toNatClampNeg = true then (0, 1, restS S x.toNatClampNeg) else (0, 0, S)
def apdA (S : Sy) (a b c d e : Int32) : An := if S.len + 20 ≤ 400 then (0, nI (S.len + 20), appS S a b c d e) else (0, -1, S)
theorem cc_append {w : Wd} {b0 : Nat} {S : Sy} {a b c d e : Int32} {Post : Int32 → Wd → Prop} (hS : S.ok b0) (hC : CI w S) (h : CN Post (apdA S a b c d e)) : wp_X8_append w a b c d e Post := by
  unfold apdA at h
  refine wh_append hS hC (fun c => ?_) (fun w' c hC' => ?_)
  · rw [if_neg (by omega)] at h
    exact h w hC
  · rw [if_pos c] at h
    exact h w' hC'
def parA (S : Sy) (x : Int32) : An := if x < 0 ∨ nI S.len < x then (1, 0, S) else match gamE S.buf x.toNatClampNeg with
  | .error e => (0, -2 - nI e, empS S)
  | .ok D => (0, nI D.g.n, newS S D)
theorem cc_parse {w : Wd} {b : Nat} {S : Sy} {x : Int32} {Post : Int32 → Wd → Prop} (hS : S.ok b) (hC : CI w S) (h : CL Post (parA S x)) : wp_L_parse w x Post := by
  have hlen := hS.2.2.2.2
  unfold wp_L_parse
  unfold parA at h
  have nin : ∀ lim, lim ≤ S.len → ¬ (nI lim < 0 ∨ nI S.len < nI lim) := fun lim hl c => c.elim (fun c => nI_pos (by omega) c) (fun c => by
    simp (disch := omega) only [nI_ltI] at c
    omega)
  refine wh_parse hS hC (fun c => ⟨rfl, ?_⟩) (fun lim e w' ex hl he _ hC' => ?_) (fun lim D w' ex hl hok hC' => ?_)
  · rw [if_pos c] at h
    exact h.bad (by decide) hC
  · subst ex
    rw [if_neg (nin lim hl), nI_clamp (by omega), he] at h
    exact h.ok hC'
  · subst ex
    rw [if_neg (nin lim hl), nI_clamp (by omega), hok] at h
    exact h.ok hC'

/-! the class: the acts -/
def stepP (g : Gm) (r : Rs) (l h s : Nat) : Ps := (g.sco l (nx (g.co l) h s), finR ((r.act 0 1).act 1 (nI s)) 0 (nI l) (nI h) (nI s))
def claimP (g : Gm) (r : Rs) (l : Nat) : Ps := (g, (finR (r.dtk 0) 1 (nI l) (-1) (-1)).clm l (nI r.tu))
def lockP (g : Gm) (r : Rs) (l h : Nat) : Ps := (g.slk l (g.lk l ||| 2 ^ h), finR (r.dtk 1) 2 (nI l) (nI h) (-1))
def backP (g : Gm) (r : Rs) (l h s : Nat) : Ps := (g.sco l (mv (g.co l) (h - s) h), (finR (r.dtk 2) 3 (nI l) (nI h) (nI s)).sbn (nI l) (nI h) (nI s))
def passP (g : Gm) (r : Rs) : Ps := (g, finR (r.act 2 1) 4 (-1) (-1) (-1))
theorem Rs.ok.act_ok {b n k : Nat} {r : Rs} {a : Int32} (h : r.ok b n) : (r.act k a).ok b n := h
theorem Rs.ok.dtk_ok {b n k : Nat} {r : Rs} (h : r.ok b n) : (r.dtk k).ok b n := by
  obtain ⟨h1, h2, h3, h4⟩ := h
  refine ⟨h1, fun i hi => ?_, h3, h4⟩
  show (if i = 3 * r.tu + k then r.tk i - 1 else r.tk i) ≤ 9
  have := h2 i hi
  by_cases q : i = 3 * r.tu + k
  · rw [if_pos q]; omega
  · rw [if_neg q]; exact this
theorem wh_makeStep {w : Wd} {b : Nat} {g : Gm} {r : Rs} {l h s : Nat} {Post : Wd → Prop} (hg : g.ok) (hr : r.ok b g.n) (hb : b < 2 ^ 30) (hG : GC w g) (hR : CR w 0 g.n r) (hc : inC g r (l, h, s)) (hp : ∀ w', GC w' (stepP g r l h s).1 → CR w' 0 g.n (stepP g r l h s).2 → FrG w w' → Post w') : wp_X0_makeStep w (nI l) (nI h) (nI s) Post := by
  obtain ⟨c1, c2, c3, c4, c5, c6⟩ := id hc
  have c1 : l < g.n := c1
  have c2 : 1 ≤ h := c2
  have c3 : h ≤ g.top l := c3
  have c4 : 1 ≤ s := c4
  have c5 : s ≤ 12 := c5
  have hl6 : l < 6 := Nat.lt_of_lt_of_le c1 hg.1
  obtain ⟨b1, b2, b3, b4, b5, b6, b7, b8, b9, b10⟩ := hg.2 l c1
  obtain ⟨a1, a2, a3, a4, a5⟩ := hG.2.1 l c1
  obtain ⟨k1, k2, k3, k4, k5⟩ := okS_sp (alB_ok c6).1
  have k3 : s ≤ h := k3
  unfold wp_X0_makeStep
  rw [nI_clamp (show l < 2 ^ 31 by omega), show gA w (53 + 8 * 0 + 1) l = nI (g.co l) from a4, pk_sub k3]
  refine ⟨pk_in l 6 hl6, ?_⟩
  refine wh_moved (by omega) (by omega) ⟨pk_in l 6 hl6, ?_⟩
  have hG1 := hG.sco l (nx (g.co l) h s)
  have hR1 : CR (sA w 54 l (nI (nx (g.co l) h s))) 0 g.n r := hR.frG (fun _ => rfl) (fun o i q _ => by rw [gA_sA, if_neg (by omega)])
  have hF1 : FrG w (sA w 54 l (nI (nx (g.co l) h s))) := FrG.sA w 54 l _ (by omega)
  refine wh_addToCount (k := 0) hr hR1 (by omega) (fun w2 hR2 hF2 e2 => ?_)
  refine wh_addToCount (k := 1) hr.act_ok hR2 (by omega) (fun w3 hR3 hF3 e3 => ?_)
  refine wh_finishAct hg.1 (hr.act_ok.act_ok) hb hR3 (fun w4 hR4 hF4 e4 => ?_)
  refine hp w4 (((hG1.frG hF2 (fun o i q => e2 o i (by omega))).frG hF3 (fun o i q => e3 o i (by omega))).frG hF4 (fun o i q => e4 o i (by omega) (by omega) (by omega))) hR4 (((hF1.tr hF2).tr hF3).tr hF4)
theorem wh_makePass {w : Wd} {b : Nat} {g : Gm} {r : Rs} {Post : Wd → Prop} (hg : g.ok) (hr : r.ok b g.n) (hb : b < 2 ^ 30) (hG : GC w g) (hR : CR w 0 g.n r) (hp : ∀ w', GC w' g → CR w' 0 g.n (passP g r).2 → FrG w w' → Post w') : wp_X0_makePass w Post := by
  unfold wp_X0_makePass
  refine wh_addToCount (k := 2) hr hR (by omega) (fun w2 hR2 hF2 e2 => ?_)
  refine wh_finishAct hg.1 hr.act_ok hb hR2 (fun w4 hR4 hF4 e4 => ?_)
  exact hp w4 ((hG.frG hF2 (fun o i q => e2 o i (by omega))).frG hF4 (fun o i q => e4 o i (by omega) (by omega) (by omega))) hR4 (hF2.tr hF4)
/-- what the log says of the latest act -/
theorem past0 {b n q : Nat} {r : Rs} (hr : r.ok b n) (hb : b < 2 ^ 30) (ha : 0 < r.ac) : pastS r 0 q = r.lg (rowN (r.ac - 1) + q) := by
  have := hr.2.2.2
  unfold pastS
  rw [if_neg (fun c => c.elim (by decide) (fun c => by
    rw [← nI_0] at c
    simp (disch := omega) only [nI_leI] at c
    omega))]
  rfl
/-- the act that play makes -/
def plC (g : Gm) (r : Rs) : Cho := (chs g r).getD (if bestN g r < (chs g r).length then bestN g r else 0) (0, 0, 0)
def playP (g : Gm) (r : Rs) : Ps := if (chs g r).length = 0 then passP g r else stepP g r (plC g r).1 (plC g r).2.1 (plC g r).2.2
theorem plC_in {g : Gm} {r : Rs} (h : (chs g r).length ≠ 0) : inC g r (plC g r) := by
  unfold plC
  have hi : (if bestN g r < (chs g r).length then bestN g r else 0) < (chs g r).length := by
    by_cases q : bestN g r < (chs g r).length
    · rw [if_pos q]; exact q
    · rw [if_neg q]; omega
  rw [List.getD_eq_getElem?_getD, List.getElem?_eq_getElem hi]
  exact chs_in (List.getElem_mem hi)
theorem wh_makeBestOrPass {w : Wd} {b : Nat} {g : Gm} {r : Rs} {Post : Wd → Prop} (hg : g.ok) (hr : r.ok b g.n) (hb : b < 2 ^ 30) (hG : GC w g) (hR : CR w 0 g.n r) (hC : okCh w (chs g r)) (hp : ∀ w', GC w' (playP g r).1 → CR w' 0 g.n (playP g r).2 → FrG w w' → Post w') : wp_X0_makeBestOrPass w (nI (chs g r).length) (bestS g r) Post := by
  have h72 := chs_len hg r
  unfold playP at hp
  refine ⟨fun c => ?_, fun c => ?_⟩
  · have c' := nI_inj (b := 0) (by omega) (by omega) c
    rw [if_pos c'] at hp
    exact wh_makePass hg hr hb hG hR hp
  · have c' : (chs g r).length ≠ 0 := fun q => c (by rw [q]; rfl)
    rw [if_neg c'] at hp
    have hi : (if bestN g r < (chs g r).length then bestN g r else 0) < (chs g r).length := by
      by_cases q : bestN g r < (chs g r).length
      · rw [if_pos q]; exact q
      · rw [if_neg q]; omega
    have e : (if bestS g r < 0 then 0 else bestS g r) = nI (if bestN g r < (chs g r).length then bestN g r else 0) := by
      unfold bestS
      by_cases q : bestN g r < (chs g r).length
      · rw [if_pos q, if_pos q, if_neg (nI_pos (by omega))]
      · rw [if_neg q, if_neg q, if_pos (by decide)]
        rfl
    rw [e, nI_clamp (by omega), hC _ hi]
    refine ⟨pk_in (if bestN g r < (chs g r).length then bestN g r else 0) 72 (by omega), fun y1 e1 => ?_⟩
    have e1 : y1 = nI (cdN (plC g r)) := e1
    subst e1
    have hc := plC_in (g := g) (r := r) c'
    obtain ⟨c1, c2, c3, c4, c5, c6⟩ := id hc
    have hb12 := (hg.2 _ c1).2.1
    obtain ⟨f1, f2, f3⟩ := cd_dec (l := (plC g r).1) (h := (plC g r).2.1) (s := (plC g r).2.2) (Nat.lt_of_lt_of_le c1 hg.1) (by omega) (by omega)
    unfold wp_X0_ladderOf wp_X0_heightOf wp_X0_sizeOf
    rw [show nI (cdN (plC g r)) >>> (8 &&& 31) = nI (plC g r).1 from f1, show (nI (cdN (plC g r)) >>> (4 &&& 31)) &&& 15 = nI (plC g r).2.1 from f2, show nI (cdN (plC g r)) &&& 15 = nI (plC g r).2.2 from f3]
    exact wh_makeStep hg hr hb hG hR hc hp

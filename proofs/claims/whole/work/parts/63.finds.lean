/-! the model: the allowed steps, the best one -/
theorem wm_isAllowed {w : Wd} {g : Gm} {r : Rs} {l h s : Nat} {Post : Int32 → Wd → Prop} (hg : g.ok) (hT : TD w 18 0 g r) (hl : l < g.n) (hh : 1 ≤ h ∧ h ≤ g.top l) (hs : 1 ≤ s ∧ s ≤ 12) (k : Post (bI (alB g r l h s)) w) : wp_X9_isAllowed w (nI l) (nI h) (nI s) Post := by
  have hG := hT.lg
  have hl6 : l < 6 := Nat.lt_of_lt_of_le hl hg.1
  obtain ⟨b1, b2, b3, b4, b5, b6, b7, b8, b9, b10⟩ := hg.2 l hl
  obtain ⟨a1, a2, a3, a4, a5⟩ := hG.2 l hl
  have hc := g.co13 hg hl
  unfold wp_X9_isAllowed
  refine wm_of (k := 2) hl6 (by omega) ?_
  rw [a3]
  refine wh_has (lt31 hc) (by omega) ?_
  rw [bI_0]
  have no : ¬ okS (g.lk l) (g.sz l) (g.co l) h s = true → Post 0 w := fun q => by
    have e : alB g r l h s = false := by
      unfold alB
      rw [Bool.and_eq_false_iff]
      left
      simpa using q
    rw [e] at k
    exact k
  refine ⟨fun c => no (fun q => by rw [(okS_sp q).1] at c; cases c), fun c => wm_of (k := 4) hl6 (by omega) ?_⟩
  rw [a5]
  refine wh_has (lt31 b4) (by omega) ?_
  rw [bI_0]
  refine ⟨fun c2 => no (fun q => by rw [(okS_sp q).2.1] at c2; cases c2), fun c2 => wm_of (k := 2) hl6 (by omega) ?_⟩
  rw [a3]
  have hbit : (g.co l).testBit h = true := by simpa using c
  have hzb : (g.sz l).testBit s = true := by simpa using c2
  refine wm_behind hl6 a4 b6 b7 hc b9 (by omega) ⟨hs.1, by omega⟩ hbit ?_
  obtain ⟨bo, bn⟩ := bhM_ok (l := g.lk l) (z := g.sz l) (m := g.co l) (h := h) (s := s) hbit hzb
  by_cases hok : okS (g.lk l) (g.sz l) (g.co l) h s = true
  · rw [bo hok]
    have hx : nx (g.co l) h s ∈ nxs (g.lk l) (g.sz l) (g.co l) := mem_nxs.mpr ⟨h, s, by omega, hs.1, hs.2, hok, rfl⟩
    have x1 := (isPos_sp (nxs_pos (g.pos hg hl) hx).1).1
    refine ⟨fun c3 => absurd c3 (n1_ne (by omega)), fun _ => wm_barred hg hT hl ⟨fun c3 => ?_, fun c3 => ?_⟩⟩
    · have e : alB g r l h s = true := by
        unfold alB
        rw [hok, decide_eq_true c3]
        rfl
      rw [e] at k
      exact k
    · have e : alB g r l h s = false := by
        unfold alB
        rw [decide_eq_false c3, Bool.and_false]
      rw [e] at k
      exact k
  · rw [bn hok]
    exact ⟨fun _ => no hok, fun c3 => absurd rfl c3⟩
theorem FrM.sT {w : Wd} (k : Nat) (x : Int32) (h : k = 23 ∨ k = 24 ∨ k = 25) : FrM w (sI w 15 k x) := ⟨fun o s q => by rw [gI_sI, if_neg (by omega)], fun _ _ _ _ _ => rfl⟩
/-- what the model found -/
def fdI (w : Wd) (c : Cho) : Prop := gI w 15 23 = nI c.1 ∧ gI w 15 24 = nI c.2.1 ∧ gI w 15 25 = nI c.2.2
theorem getD_app {α : Type} {a b : List α} {i : Nat} {d : α} (h : i < a.length) : (a ++ b).getD i d = a.getD i d := by
  rw [List.getD_eq_getElem?_getD, List.getD_eq_getElem?_getD, List.getElem?_append_left h]
theorem getD_end {α : Type} {a : List α} {x d : α} : (a ++ [x]).getD a.length d = x := by
  simp
set_option maxHeartbeats 4000000 in
theorem wm_finds {w : Wd} {g : Gm} {r : Rs} {x : Int32} {Post : Int32 → Wd → Prop} (hg : g.ok) (hT : TD w 18 0 g r) (h : ∀ w', FrM w w' → (∀ k, x = nI k → k < (chs g r).length → fdI w' ((chs g r).getD k (0, 0, 0))) → Post (nI (chs g r).length) w') : wp_X9_finds w x Post := by
  have hn := hg.1
  have h72 := chs_len hg r
  unfold wp_X9_finds wp_X9_ladders
  intro J4 J20 J28 h4 h20 h28
  have outer : ∀ k, k ≤ g.n → ∀ pre w', pre ++ fL g r k = chs g r → FrM w w' → (∀ k, x = nI k → k < pre.length → fdI w' (pre.getD k (0, 0, 0))) → J4 (nI pre.length) (nI (g.n - k)) w' := by
    intro k
    induction k with
    | zero =>
      intro hk pre w' hp hF hC
      rw [show pre = chs g r by rw [← hp]; simp [fL]] at hC ⊢
      refine h4 _ _ _ ⟨fun _ => h w' hF hC, fun c => ?_⟩
      rw [(hT.lg.fr hF.e18).1] at c
      simp (disch := omega) only [nI_leI] at c
      omega
    | succ k ih =>
      intro hk pre w' hp hF hC
      have hln : g.n - (k + 1) < g.n := by omega
      obtain ⟨b1, b2, b3, b4, b5, b6, b7, b8, b9, b10⟩ := hg.2 (g.n - (k + 1)) hln
      have ih' := ih (by omega)
      rw [show g.n - k = g.n - (k + 1) + 1 by omega] at ih'
      rw [fL] at hp
      generalize hl : g.n - (k + 1) = l at hln b1 b2 b3 b4 b5 b6 b7 b8 b9 b10 ih' hp
      have hl6 : l < 6 := by omega
      have mid : ∀ hh, hh ≤ g.top l → ∀ pre w', pre ++ (fH g r l hh ++ fL g r k) = chs g r → FrM w w' → (∀ k, x = nI k → k < pre.length → fdI w' (pre.getD k (0, 0, 0))) → J20 (nI pre.length) (nI l) (nI hh) w' := by
        intro hh
        induction hh with
        | zero =>
          intro _ pre w' hp hF hC
          refine h20 _ _ _ _ ⟨fun _ y e => ?_, fun c => absurd (by decide) c⟩
          subst e
          rw [nI_1]
          exact ih' pre w' (by simpa [fH] using hp) hF hC
        | succ hh ihm =>
          intro hh2 pre w' hp hF hC
          have ihm' := ihm (by omega)
          have hst : hh + 1 ≤ 12 := by omega
          have inner : ∀ q, q ≤ 12 → ∀ pre w', pre ++ (fS g r l (hh + 1) q ++ (fH g r l hh ++ fL g r k)) = chs g r → FrM w w' → (∀ k, x = nI k → k < pre.length → fdI w' (pre.getD k (0, 0, 0))) → J28 (nI pre.length) (nI l) (nI (hh + 1)) (nI (13 - q)) w' := by
            intro q
            induction q with
            | zero =>
              intro hq pre w' hp hF hC
              refine h28 _ _ _ _ _ ⟨fun _ y e => ?_, fun c => absurd (by decide) c⟩
              subst e
              rw [pk_m1]
              exact ihm' pre w' (by simpa [fS] using hp) hF hC
            | succ q ihq =>
              intro hq pre w' hp hF hC
              have ihq' := ihq (by omega)
              rw [show 13 - q = 12 - q + 1 by omega] at ihq'
              rw [show 13 - (q + 1) = 12 - q by omega]
              have hlen : pre.length ≤ 72 := by rw [← hp, List.length_append] at h72; omega
              rw [fS] at hp
              refine h28 _ _ _ _ _ ⟨fun c => ?_, fun _ => ?_⟩
              · simp (disch := omega) only [fa_lit, nI_ltI] at c
                omega
              refine wm_isAllowed hg (hF.TD hT (by decide) hn) hln ⟨by omega, hh2⟩ ⟨by omega, by omega⟩ ?_
              rw [bI_0]
              refine ⟨fun c y e => ?_, fun c => ?_⟩
              · subst e
                rw [nI_1]
                rw [if_neg (by rw [c]; decide)] at hp
                exact ihq' pre w' hp hF hC
              · have ha : alB g r l (hh + 1) (12 - q) = true := by simpa using c
                rw [if_pos ha] at hp
                have hp2 : (pre ++ [(l, hh + 1, 12 - q)]) ++ (fS g r l (hh + 1) q ++ (fH g r l hh ++ fL g r k)) = chs g r := by rw [← hp]; simp
                refine ⟨fun c2 y5 e5 y6 e6 => ?_, fun c2 y3 e3 y4 e4 => ?_⟩
                · subst e5 e6
                  rw [nI_1, nI_1]
                  have := ihq' (pre ++ [(l, hh + 1, 12 - q)]) (sI (sI (sI w' 15 23 (nI l)) 15 24 (nI (hh + 1))) 15 25 (nI (12 - q))) hp2 (((hF.tr (FrM.sT 23 _ (Or.inl rfl))).tr (FrM.sT 24 _ (Or.inr (Or.inl rfl)))).tr (FrM.sT 25 _ (Or.inr (Or.inr rfl)))) (fun j hj hjl => ?_)
                  · rw [List.length_append, List.length_singleton] at this
                    exact this
                  · rw [List.length_append, List.length_singleton] at hjl
                    have e : j = pre.length := nI_inj (by omega) (by omega) (hj.symm.trans c2.symm)
                    subst e
                    rw [getD_end]
                    refine ⟨?_, ?_, ?_⟩
                    · rw [gI_sI, if_neg (by omega), gI_sI, if_neg (by omega), gI_sI, if_pos ⟨rfl, rfl⟩]
                    · rw [gI_sI, if_neg (by omega), gI_sI, if_pos ⟨rfl, rfl⟩]
                    · rw [gI_sI, if_pos ⟨rfl, rfl⟩]
                · subst e3 e4
                  rw [nI_1, nI_1]
                  have := ihq' (pre ++ [(l, hh + 1, 12 - q)]) w' hp2 hF (fun j hj hjl => ?_)
                  · rw [List.length_append, List.length_singleton] at this
                    exact this
                  · rw [List.length_append, List.length_singleton] at hjl
                    have hne : j ≠ pre.length := fun e => c2 (by rw [hj, e])
                    rw [getD_app (by omega)]
                    exact hC j hj (by omega)
          refine h20 _ _ _ _ ⟨fun c => ?_, fun _ => ?_⟩
          · simp (disch := omega) only [fa_lit, nI_leI] at c
            omega
          · rw [fH, List.append_assoc] at hp
            exact inner 12 (by omega) pre w' hp hF hC
      refine h4 _ _ _ ⟨fun c => ?_, fun _ => wm_of (k := 0) hl6 (by omega) ?_⟩
      · rw [(hT.lg.fr hF.e18).1] at c
        simp (disch := omega) only [nI_leI] at c
        omega
      · rw [((hT.lg.fr hF.e18).2 l hln).1]
        exact mid (g.top l) (Nat.le_refl _) pre w' hp hF hC
  have := outer g.n (Nat.le_refl _) [] w (by simp [chs]) (FrM.rf w) (fun j _ hj => absurd hj (Nat.not_lt_zero j))
  rw [Nat.sub_self] at this
  exact this
theorem xor_win {a b s : Nat} : b = s ^^^ a ↔ a ^^^ b = s := by
  constructor
  · intro e
    rw [e, Nat.xor_comm, Nat.xor_assoc, Nat.xor_self, Nat.xor_zero]
  · intro e
    rw [← e, Nat.xor_comm a b, Nat.xor_assoc, Nat.xor_self, Nat.xor_zero]
set_option maxHeartbeats 4000000 in
theorem wm_bestOne {w : Wd} {g : Gm} {r : Rs} {Post : Int32 → Wd → Prop} (hg : g.ok) (hT : TD w 18 0 g r) (h : ∀ w', FrM w w' → Post (bestS g r) w') : wp_X9_bestOne w Post := by
  have hn := hg.1
  have h72 := chs_len hg r
  have hs16 := sumTo_lt hg g.n (Nat.le_refl _)
  unfold wp_X9_bestOne wp_X9_ladders
  intro J9 J45 J53 h9 h45 h53
  have won : ∀ pre c rest, pre ++ c :: rest = chs g r → (∀ d, d ∈ pre → winB g d = false) → winB g c = true → bestS g r = nI pre.length := by
    intro pre c rest hp hno hw
    have hlt : pre.length < (chs g r).length := by rw [← hp, List.length_append, List.length_cons]; omega
    have e : bestN g r = pre.length := by
      unfold bestN
      rw [← hp]
      refine idx_no (fun j hj hji => ?_) (by rw [List.length_append, List.length_cons]; omega) ?_
      · rw [List.getElem_append_left hji]
        exact hno _ (List.getElem_mem hji)
      · rw [List.getElem_append_right (Nat.le_refl _)]
        simpa using hw
    unfold bestS
    rw [e, if_pos hlt]
  have lost : (∀ d, d ∈ chs g r → winB g d = false) → bestS g r = -1 := by
    intro hno
    refine if_neg (fun q => ?_)
    have h1 : winB g ((chs g r)[bestN g r]'q) = true := List.findIdx_getElem (p := winB g) (w := q)
    rw [hno _ (List.getElem_mem q)] at h1
    cases h1
  have outer : ∀ k, k ≤ g.n → ∀ pre w', pre ++ fL g r k = chs g r → FrM w w' → (∀ d, d ∈ pre → winB g d = false) → J9 (nI (sumTo g g.n)) (nI pre.length) (nI (g.n - k)) w' := by
    intro k
    induction k with
    | zero =>
      intro hk pre w' hp hF hC
      rw [show pre = chs g r by rw [← hp]; simp [fL]] at hC ⊢
      refine h9 _ _ _ _ ⟨fun _ => ?_, fun c => ?_⟩
      · have := h w' hF
        rw [lost hC] at this
        exact this
      · rw [(hT.lg.fr hF.e18).1] at c
        simp (disch := omega) only [nI_leI] at c
        omega
    | succ k ih =>
      intro hk pre w' hp hF hC
      have hln : g.n - (k + 1) < g.n := by omega
      obtain ⟨b1, b2, b3, b4, b5, b6, b7, b8, b9, b10⟩ := hg.2 (g.n - (k + 1)) hln
      have ih' := ih (by omega)
      rw [show g.n - k = g.n - (k + 1) + 1 by omega] at ih'
      rw [fL] at hp
      generalize hl : g.n - (k + 1) = l at hln b1 b2 b3 b4 b5 b6 b7 b8 b9 b10 ih' hp
      have hl6 : l < 6 := by omega
      have hc := g.co13 hg hln
      have hv12 := vNow_le hg hln
      refine h9 _ _ _ _ ⟨fun c => ?_, fun _ => ?_⟩
      · rw [(hT.lg.fr hF.e18).1] at c
        simp (disch := omega) only [nI_leI] at c
        omega
      refine wm_lays hg (hT.lg.fr hF.e18) hln (fun w1 hF1 hL => wm_of (k := 2) hl6 (by omega) ?_)
      have hF1' := hF.tr hF1.M
      have hT1 : TD w1 18 0 g r := hF1'.TD hT (by decide) hn
      obtain ⟨a1, a2, a3, a4, a5⟩ := hT1.lg.2 l hln
      rw [a3, nI_clamp (by omega), (hL _ b8 b9 b10).1]
      refine ⟨pk_in (g.co l) 8192 hc, fun y1 e1 => wm_of (k := 0) hl6 (by omega) ?_⟩
      rw [a1]
      rw [fb_xorI] at e1
      have e1 : y1 = nI (sumTo g g.n ^^^ vNow g l) := e1
      have hrest : sumTo g g.n ^^^ vNow g l < 16 := xor16 hs16 (Nat.lt_of_le_of_lt hv12 (by decide))
      generalize hR : sumTo g g.n ^^^ vNow g l = rest at e1 hrest
      subst e1
      have mid : ∀ hh, hh ≤ g.top l → ∀ pre, pre ++ (fH g r l hh ++ fL g r k) = chs g r → (∀ d, d ∈ pre → winB g d = false) → J45 (nI (sumTo g g.n)) (nI pre.length) (nI l) (nI rest) (nI hh) w1 := by
        intro hh
        induction hh with
        | zero =>
          intro _ pre hp hC
          refine h45 _ _ _ _ _ _ ⟨fun _ y e => ?_, fun c => absurd (by decide) c⟩
          subst e
          rw [nI_1]
          exact ih' pre w1 (by simpa [fH] using hp) hF1' hC
        | succ hh ihm =>
          intro hh2 pre hp hC
          have ihm' := ihm (by omega)
          have hst : hh + 1 ≤ 12 := by omega
          have inner : ∀ q, q ≤ 12 → ∀ pre, pre ++ (fS g r l (hh + 1) q ++ (fH g r l hh ++ fL g r k)) = chs g r → (∀ d, d ∈ pre → winB g d = false) → J53 (nI (sumTo g g.n)) (nI pre.length) (nI l) (nI rest) (nI (hh + 1)) (nI (13 - q)) w1 := by
            intro q
            induction q with
            | zero =>
              intro hq pre hp hC
              refine h53 _ _ _ _ _ _ _ ⟨fun _ y e => ?_, fun c => absurd (by decide) c⟩
              subst e
              rw [pk_m1]
              exact ihm' pre (by simpa [fS] using hp) hC
            | succ q ihq =>
              intro hq pre hp hC
              have ihq' := ihq (by omega)
              rw [show 13 - q = 12 - q + 1 by omega] at ihq'
              rw [show 13 - (q + 1) = 12 - q by omega]
              have hlen : pre.length ≤ 72 := by rw [← hp, List.length_append] at h72; omega
              rw [fS] at hp
              refine h53 _ _ _ _ _ _ _ ⟨fun c => ?_, fun _ => ?_⟩
              · simp (disch := omega) only [fa_lit, nI_ltI] at c
                omega
              refine wm_isAllowed hg hT1 hln ⟨by omega, hh2⟩ ⟨by omega, by omega⟩ ?_
              rw [bI_0]
              refine ⟨fun c y e => ?_, fun c => ?_⟩
              · subst e
                rw [nI_1]
                rw [if_neg (by rw [c]; decide)] at hp
                exact ihq' pre hp hC
              · have ha : alB g r l (hh + 1) (12 - q) = true := by simpa using c
                rw [if_pos ha] at hp
                have hp1 : pre ++ (l, hh + 1, 12 - q) :: (fS g r l (hh + 1) q ++ (fH g r l hh ++ fL g r k)) = chs g r := by rw [← hp]; simp
                have hp2 : (pre ++ [(l, hh + 1, 12 - q)]) ++ (fS g r l (hh + 1) q ++ (fH g r l hh ++ fL g r k)) = chs g r := by rw [← hp]; simp
                have hok := (alB_ok ha).1
                obtain ⟨k1, k2, k3, k4, k5⟩ := okS_sp hok
                have hin : inC g r (l, hh + 1, 12 - q) := chs_in (by rw [← hp1]; exact List.mem_append_right _ List.mem_cons_self)
                obtain ⟨n1, n2, n3⟩ := inC_nx hg hin
                have n1 : isPos (nx (g.co l) (hh + 1) (12 - q)) = true := n1
                have n2 : pop (nx (g.co l) (hh + 1) (12 - q)) ≤ g.cn l := n2
                have n3 : nx (g.co l) (hh + 1) (12 - q) < g.co l := n3
                obtain ⟨x1, x2, x3⟩ := isPos_sp n1
                have hvb := vB_le hg hin
                refine wm_of (k := 2) hl6 (by omega) ?_
                rw [a3]
                refine wm_behind hl6 a4 b6 b7 hc b9 (by omega) ⟨by omega, by omega⟩ k1 ?_
                rw [(bhM_ok (l := g.lk l) (z := g.sz l) k1 k2).1 hok, nI_clamp (by omega), (hL _ (Nat.lt_trans n3 b8) x2 n2).1]
                refine ⟨pk_in (nx (g.co l) (hh + 1) (12 - q)) 8192 x1, ?_⟩
                have evb : val (g.lk l) (g.sz l) (nx (g.co l) (hh + 1) (12 - q)) = vB g (l, hh + 1, 12 - q) := rfl
                rw [evb, nI_eq (Nat.lt_of_le_of_lt hvb (by decide)) (Nat.lt_trans hrest (by decide)), ← hR, xor_win]
                have hwin := winB_iff (g := g) (c := (l, hh + 1, 12 - q))
                refine ⟨fun c2 => ?_, fun c2 y4 e4 y5 e5 => ?_⟩
                · have := h w1 hF1'
                  rw [won pre _ _ hp1 hC (hwin.mpr c2)] at this
                  exact this
                · subst e4 e5
                  rw [nI_1, nI_1, hR]
                  have := ihq' (pre ++ [(l, hh + 1, 12 - q)]) hp2 (fun d hd => ?_)
                  · rw [List.length_append, List.length_singleton] at this
                    exact this
                  · rcases List.mem_append.mp hd with hd | hd
                    · exact hC d hd
                    · rw [List.mem_singleton] at hd
                      subst hd
                      cases hw : winB g (l, hh + 1, 12 - q)
                      · rfl
                      · exact absurd (hwin.mp hw) c2
          refine h45 _ _ _ _ _ _ ⟨fun c => ?_, fun _ => ?_⟩
          · simp (disch := omega) only [fa_lit, nI_leI] at c
            omega
          · rw [fH, List.append_assoc] at hp
            exact inner 12 (by omega) pre hp hC
      exact mid (g.top l) (Nat.le_refl _) pre hp hC
  refine wm_sumNow hg hT.lg (fun w1 hF1 => ?_)
  have := outer g.n (Nat.le_refl _) [] w1 (by simp [chs]) hF1.M (fun d hd => by cases hd)
  rw [Nat.sub_self] at this
  exact this
theorem wm_sumBehind {w : Wd} {g : Gm} {r : Rs} {c : Cho} {Post : Int32 → Wd → Prop} (hg : g.ok) (hT : TD w 18 0 g r) (hc : inC g r c) (hf : fdI w c) (h : ∀ w', FrM w w' → Post (nI (sumTo g g.n) ^^^ nI (vNow g c.1 ^^^ vB g c)) w') : wp_X9_sumBehind w Post := by
  have hn := hg.1
  obtain ⟨c1, c2, c3, c4, c5, c6⟩ := id hc
  have hl6 : c.1 < 6 := by omega
  obtain ⟨b1, b2, b3, b4, b5, b6, b7, b8, b9, b10⟩ := hg.2 c.1 c1
  have hco := g.co13 hg c1
  have hok := (alB_ok c6).1
  obtain ⟨k1, k2, k3, k4, k5⟩ := okS_sp hok
  obtain ⟨n1, n2, n3⟩ := inC_nx hg hc
  obtain ⟨x1, x2, x3⟩ := isPos_sp n1
  obtain ⟨f1, f2, f3⟩ := hf
  unfold wp_X9_sumBehind
  refine wm_sumNow hg hT.lg (fun w1 hF1 => ?_)
  rw [hF1.1, f1]
  refine wm_lays hg (hT.lg.fr hF1.M.e18) c1 (fun w2 hF2 hL => ?_)
  have hF := hF1.tr hF2
  have hT1 : TD w2 18 0 g r := hF.M.TD hT (by decide) hn
  obtain ⟨a1, a2, a3, a4, a5⟩ := hT1.lg.2 c.1 c1
  rw [hF.1, f1]
  refine wm_of (k := 2) hl6 (by omega) ?_
  rw [a3]
  refine ⟨pk_in (g.co c.1) 8192 hco, ?_⟩
  rw [hF.1, f1]
  refine wm_of (k := 2) hl6 (by omega) ?_
  rw [a3, hF.1, f2, hF.1, f3]
  refine wm_behind hl6 a4 b6 b7 hco b9 (by omega) ⟨c4, by omega⟩ k1 ?_
  rw [(bhM_ok (l := g.lk c.1) (z := g.sz c.1) k1 k2).1 hok, nI_clamp (by omega), nI_clamp (by omega), (hL _ b8 b9 b10).1, (hL _ (Nat.lt_trans n3 b8) x2 n2).1]
  refine ⟨pk_in (nx (g.co c.1) c.2.1 c.2.2) 8192 x1, ?_⟩
  have := h w2 hF.M
  rw [fb_xorI, ← Nat.xor_assoc] at this
  rw [fb_xorI, fb_xorI]
  exact this

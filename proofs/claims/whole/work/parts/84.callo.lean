/-! the model's calls that change -/
theorem mm_step {w : Wd} {b : Nat} {S : Sy} {x y z : Int32} {Post : Int32 → Wd → Prop} (hS : S.ok b) (hb : b < 2 ^ 30) (hI : TI w S) (h : ML Post (stpA S x y z)) : wp_X9_step w x y z Post := by
  have hg := hS.hg
  have hI1 := hI.th hS 0
  have t0 := th_g w 0
  unfold wp_X9_step
  unfold stpA at h
  refine wm_whyStep hg hI.1 ⟨fun c => br_le0 ?_, fun c => br_le (by decide) ?_⟩
  · rw [if_pos c] at h
    obtain ⟨l, hh, s, rfl, rfl, rfl, hin⟩ := why0 hg c
    obtain ⟨i1, i2, i3, i4, i5, i6⟩ := id hin
    have i1 : l < S.g.n := i1
    have i3 : hh ≤ S.g.top l := i3
    have i5 : s ≤ 12 := i5
    have hl6 : l < 6 := Nat.lt_of_lt_of_le i1 hg.1
    have hb12 := (hg.2 l i1).2.1
    have eS : stS S (nI l) (nI hh) (nI s) = (keepS S).sp (stepP S.g S.r l hh s) := by
      unfold stS
      rw [nI_clamp (by omega), nI_clamp (by omega), nI_clamp (by omega)]
    rw [eS] at h
    refine wm_keep hS hI1 (fun w2 hI2 e2 => ?_)
    have hp := stepP_ok (b := b) (g := S.g) (r := S.r) (l := l) (h := hh) (s := s) hS.1 hin
    have hT2 : TD w2 18 0 S.g S.r := hI2.1
    refine wm_steps (b := b) hg hS.hr hb hT2 hin (fun w3 hT3 hF3 => ?_)
    have hI3 : TI w3 ((keepS S).sp (stepP S.g S.r l hh s)) := TI.frA (p := stepP S.g S.r l hh s) hS.keep hI2 hF3 hT3
    have hS3 : ((keepS S).sp (stepP S.g S.r l hh s)).ok (b + 1) := (hS.keep.up (Nat.le_succ b)).sp hp ⟨rfl, rfl, rfl, rfl⟩
    exact wm_sumNow hp.1 hT3.lg (fun w4 hF4 => h.ok (hI3.frT hS3 hF4.M.T) ((hF4.1 15 0).trans ((hF3.1 15 0).trans (e2.trans t0))))
  · rw [if_neg c] at h
    exact h.bad hS hI (by decide)
theorem mm_claim {w : Wd} {b : Nat} {S : Sy} {x : Int32} {Post : Int32 → Wd → Prop} (hS : S.ok b) (hb : b < 2 ^ 30) (hI : TI w S) (h : ML Post (clmA S x)) : wp_X9_claim w x Post := by
  have hg := hS.hg
  have hr := hS.hr
  have hI1 := hI.th hS 0
  have t0 := th_g w 0
  unfold wp_X9_claim
  unfold clmA at h
  refine wm_whyClaim hg hr hI.1 ⟨fun c => br_le0 ?_, fun c => br_le (by decide) ?_⟩
  · rw [if_pos c] at h
    obtain ⟨l, hl, rfl, hpos⟩ := whyC0 hg c
    have hn := hg.1
    have hl6 : l < 6 := Nat.lt_of_lt_of_le hl hg.1
    have ht := hr.1
    rw [nI_clamp (by omega)] at h
    refine wm_keep hS hI1 (fun w2 hI2 f2 => ?_)
    have hT2 : TD w2 18 0 S.g S.r := hI2.1
    obtain ⟨_, h3, h4, _⟩ := hT2.z
    intro y4 e4 y5 e5
    rw [h4] at e4
    subst e4
    rw [tok0] at e5
    subst e5
    rw [nI_clamp (show 43 + 6 * S.r.tu < 2 ^ 31 by omega)]
    refine ⟨pk_in (43 + 6 * S.r.tu) 140 (by omega), fun y6 e6 => ⟨pk_in (43 + 6 * S.r.tu) 140 (by omega), ?_⟩⟩
    rw [show gA w2 18 (43 + 6 * S.r.tu) = nI (S.r.tk (3 * S.r.tu)) from (h3 S.r.tu (by omega) 0 (by omega)).1, show nI (S.r.tk (3 * S.r.tu)) - 1 = nI (S.r.tk (3 * S.r.tu) - 1) from pk_sub (b := 1) hpos] at e6
    have hT3 : TD (sA w2 18 (43 + 6 * S.r.tu) y6) 18 0 S.g (S.r.dtk 0) := hT2.utk (k := 0) hn ht (by omega) e6
    refine wm_acts hg (b := b) hr.dtk_ok hb hT3 (fun w3 hT4 hF3 => wm_at ?_)
    rw [show 1 + (7 * nI l) + 5 = nI (1 + 7 * l + 5) from la_ix l 5, nI_clamp (by omega)]
    refine ⟨pk_in (1 + 7 * l + 5) 140 (by omega), wm_at ?_⟩
    rw [show 1 + (7 * nI l) + 6 = nI (1 + 7 * l + 6) from la_ix l 6, nI_clamp (by omega), tok0, nI_clamp (by omega)]
    refine ⟨pk_in (1 + 7 * l + 6) 140 (by omega), pk_in (43 + 6 * S.r.tu) 140 (by omega), ?_⟩
    have hT5 := hT4.ucl hn hl (p := nI S.r.tu)
    have hF : FrA w2 (sA (sA w3 18 (1 + 7 * l + 5) (nI S.r.tu)) 18 (1 + 7 * l + 6) 3) := (((FrA.s _ _ _).tr hF3).tr (FrA.s _ _ _)).tr (FrA.s _ _ _)
    have hI5 : TI _ ((keepS S).sp (claimP S.g S.r l)) := TI.frA (p := claimP S.g S.r l) hS.keep hI2 hF hT5
    have e7 : gA (sA (sA w3 18 (1 + 7 * l + 5) (nI S.r.tu)) 18 (1 + 7 * l + 6) 3) 18 (43 + 6 * S.r.tu) = nI (S.r.tk (3 * S.r.tu) - 1) := by
      have q := (hT5.z.2.1 S.r.tu (by omega) 0 (by omega)).1
      have q2 : ((finR (S.r.dtk 0) 1 (nI l) (-1) (-1)).clm l (nI S.r.tu)).tk (3 * S.r.tu + 0) = S.r.tk (3 * S.r.tu) - 1 := if_pos rfl
      rw [q2] at q
      exact q
    rw [e7]
    exact h.ok hI5 ((hF.1 15 0).trans (f2.trans t0))
  · rw [if_neg c] at h
    exact h.bad hS hI (by decide)
theorem mm_lock {w : Wd} {b : Nat} {S : Sy} {x y : Int32} {Post : Int32 → Wd → Prop} (hS : S.ok b) (hb : b < 2 ^ 30) (hI : TI w S) (h : ML Post (lokA S x y)) : wp_X9_lock w x y Post := by
  have hg := hS.hg
  have hr := hS.hr
  have hI1 := hI.th hS 0
  have t0 := th_g w 0
  unfold wp_X9_lock
  unfold lokA at h
  refine wm_whyLock hg hr hI.1 ⟨fun c => br_le0 ?_, fun c => br_le (by decide) ?_⟩
  · rw [if_pos c] at h
    obtain ⟨l, hh, hl, rfl, rfl, h1, h2, hpos⟩ := whyL0 hg c
    have hn := hg.1
    have hl6 : l < 6 := Nat.lt_of_lt_of_le hl hg.1
    have hb12 := (hg.2 l hl).2.1
    have ht := hr.1
    have eS : lokS S (nI l) (nI hh) = (keepS S).sp (lockP S.g S.r l hh) := by
      unfold lokS
      rw [nI_clamp (by omega), nI_clamp (by omega)]
    rw [eS, nI_clamp (by omega)] at h
    have hp := lockP_ok (b := b) (g := S.g) (r := S.r) (l := l) (h := hh) hS.1 hl h1 h2
    refine wm_keep hS hI1 (fun w2 hI2 f2 => ?_)
    have hT2 : TD w2 18 0 S.g S.r := hI2.1
    obtain ⟨_, h3, h4, _⟩ := hT2.z
    intro y5 e5
    rw [h4, tok0, show nI (43 + 6 * S.r.tu) + 1 = nI (43 + 6 * S.r.tu + 1) from nI_pL _ 1] at e5
    subst e5
    rw [nI_clamp (show 43 + 6 * S.r.tu + 1 < 2 ^ 31 by omega)]
    refine ⟨pk_in (43 + 6 * S.r.tu + 1) 140 (by omega), fun y6 e6 => ⟨pk_in (43 + 6 * S.r.tu + 1) 140 (by omega), wm_at (fun y7 e7 => ?_)⟩⟩
    rw [(h3 S.r.tu (by omega) 1 (by omega)).1, show nI (S.r.tk (3 * S.r.tu + 1)) - 1 = nI (S.r.tk (3 * S.r.tu + 1) - 1) from pk_sub (b := 1) hpos] at e6
    have hT3 : TD (sA w2 18 (43 + 6 * S.r.tu + 1) y6) 18 0 S.g (S.r.dtk 1) := hT2.utk (k := 1) hn ht (by omega) e6
    rw [show 1 + (7 * nI l) + 3 = nI (1 + 7 * l + 3) from la_ix l 3] at e7
    subst e7
    rw [nI_clamp (show 1 + 7 * l + 3 < 2 ^ 31 by omega)]
    refine ⟨pk_in (1 + 7 * l + 3) 140 (by omega), fun y8 e8 => ⟨pk_in (1 + 7 * l + 3) 140 (by omega), ?_⟩⟩
    rw [(hT3.lg.2 l hl).2.2.2.1, nI_shl1 (by omega), fa_or] at e8
    subst e8
    have hT4 : TD _ 18 0 (lockP S.g S.r l hh).1 (S.r.dtk 1) := hT3.ulk hn hl (v := S.g.lk l ||| 2 ^ hh)
    refine wm_acts (g := (lockP S.g S.r l hh).1) hp.1 (b := b) hr.dtk_ok hb hT4 (fun w3 hT5 hF3 => ?_)
    have hF := ((FrA.s w2 (43 + 6 * S.r.tu + 1) y6).tr (FrA.s _ _ _)).tr hF3
    have hI5 : TI w3 ((keepS S).sp (lockP S.g S.r l hh)) := TI.frA (p := lockP S.g S.r l hh) hS.keep hI2 hF hT5
    have hS5 : ((keepS S).sp (lockP S.g S.r l hh)).ok (b + 1) := (hS.keep.up (Nat.le_succ b)).sp hp ⟨rfl, rfl, rfl, rfl⟩
    exact wm_worthOf hp.1 hT5.lg hl (fun w4 hF4 _ => h.ok (hI5.frT hS5 hF4.M.T) ((hF4.1 15 0).trans ((hF.1 15 0).trans (f2.trans t0))))
  · rw [if_neg c] at h
    exact h.bad hS hI (by decide)
theorem mm_back {w : Wd} {b : Nat} {S : Sy} {Post : Int32 → Wd → Prop} (hS : S.ok b) (hb : b < 2 ^ 30) (hI : TI w S) (h : ML Post (bakA S)) : wp_X9_back w Post := by
  have hg := hS.hg
  have hr := hS.hr
  have hI1 := hI.th hS 0
  have t0 := th_g w 0
  unfold wp_X9_back
  unfold bakA at h
  refine wm_whyBack (g := S.g) hr hb hI.1 ⟨fun c => br_le0 ?_, fun c => br_le (by decide) ?_⟩
  · rw [if_pos c] at h
    obtain ⟨ha, hpos, l, hh, s, m, e1, e2, e3, e4, n2, n3, n4, e5, e6, e7, e8, e9, e10, e11, e12⟩ := whyB0 (g := S.g) (r := S.r) hS.1 hb c
    have hn := hg.1
    have hl6 : l < 6 := Nat.lt_of_lt_of_le e1 hg.1
    have ht := hr.1
    have eS : bakS S = (keepS S).sp (backP S.g S.r l hh s) := by
      unfold bakS
      rw [n2, n3, n4]
    rw [eS] at h
    have hp := backP_ok (b := b) (g := S.g) (r := S.r) (l := l) (h := hh) (s := s) (m := m) hS.1 e1 e5 e8 e9 e10 e11 e12
    refine wm_keep hS hI1 (fun w2 hI2 f2 => ?_)
    have hT2 : TD w2 18 0 S.g S.r := hI2.1
    obtain ⟨_, h3, h4, _⟩ := hT2.z
    refine wm_latest (q := 2) hr hb hT2 ha (by omega) (wm_latest (q := 3) hr hb hT2 ha (by omega) (wm_latest (q := 4) hr hb hT2 ha (by omega) ?_))
    rw [e2, e3, e4]
    intro y6 d6
    rw [h4, tok0, show nI (43 + 6 * S.r.tu) + 2 = nI (43 + 6 * S.r.tu + 2) from nI_pL _ 2] at d6
    subst d6
    rw [nI_clamp (show 43 + 6 * S.r.tu + 2 < 2 ^ 31 by omega)]
    refine ⟨pk_in (43 + 6 * S.r.tu + 2) 140 (by omega), fun y7 d7 => ⟨pk_in (43 + 6 * S.r.tu + 2) 140 (by omega), wm_of (k := 2) hl6 (by omega) ?_⟩⟩
    rw [(h3 S.r.tu (by omega) 2 (by omega)).1, show nI (S.r.tk (3 * S.r.tu + 2)) - 1 = nI (S.r.tk (3 * S.r.tu + 2) - 1) from pk_sub (b := 1) hpos] at d7
    have hT3 : TD (sA w2 18 (43 + 6 * S.r.tu + 2) y7) 18 0 S.g (S.r.dtk 2) := hT2.utk (k := 2) hn ht (by omega) d7
    intro y8 d8
    rw [pk_sub e6] at d8
    subst d8
    have hbk := back_m (l := S.g.lk l) (z := S.g.sz l) e8 e5 e11
    have hmv := mv_nx (l := S.g.lk l) (z := S.g.sz l) e8 e5 e11
    have hmv2 : mv (S.g.co l) (hh - s) hh = m := by rw [e9]; exact hmv
    rw [(hT3.lg.2 l e1).2.2.1, e9]
    have hT4 : TD (sA (sA w2 18 (43 + 6 * S.r.tu + 2) y7) 18 (1 + 7 * l + 2) (nI m)) 18 0 (backP S.g S.r l hh s).1 (S.r.dtk 2) := by
      show TD _ 18 0 (S.g.sco l (mv (S.g.co l) (hh - s) hh)) (S.r.dtk 2)
      rw [hmv2]
      exact hT3.uco hn e1 (v := m)
    have fin : ∀ y, y = nI m → wp_X9_acts (sA (sA w2 18 (43 + 6 * S.r.tu + 2) y7) 18 (1 + 7 * l + 2) y) 3 (nI l) (nI hh) (nI s) (fun w8 => wp_X9_sumNow (sA (sA (sA w8 18 57 (nI l)) 18 58 (nI hh)) 18 59 (nI s)) (fun r7 w9 => Post r7 w9)) := fun y e => by
      subst e
      refine wm_acts (g := (backP S.g S.r l hh s).1) hp.1 (b := b) hr.dtk_ok hb hT4 (fun w3 hT5 hF3 => ?_)
      have hT6 := hT5.ubn hn (a := nI l) (b := nI hh) (c := nI s)
      have hF : FrA w2 (sA (sA (sA w3 18 57 (nI l)) 18 58 (nI hh)) 18 59 (nI s)) := (((((FrA.s _ _ _).tr (FrA.s _ _ _)).tr hF3).tr (FrA.s _ _ _)).tr (FrA.s _ _ _)).tr (FrA.s _ _ _)
      have hI5 : TI _ ((keepS S).sp (backP S.g S.r l hh s)) := TI.frA (p := backP S.g S.r l hh s) hS.keep hI2 hF hT6
      have hS5 : ((keepS S).sp (backP S.g S.r l hh s)).ok (b + 1) := (hS.keep.up (Nat.le_succ b)).sp hp ⟨rfl, rfl, rfl, rfl⟩
      exact wm_sumNow hp.1 hT6.lg (fun w4 hF4 => h.ok (hI5.frT hS5 hF4.M.T) ((hF4.1 15 0).trans ((hF.1 15 0).trans (f2.trans t0))))
    refine wm_at ?_
    rw [show 1 + (7 * nI l) + 2 = nI (1 + 7 * l + 2) from la_ix l 2, nI_clamp (show 1 + 7 * l + 2 < 2 ^ 31 by omega), le0 (by omega), nI_shl1 (by omega), nI_shl1 (by omega)]
    refine ⟨fun q y9 d9 => ⟨pk_in (1 + 7 * l + 2) 140 (by omega), fin y9 ?_⟩, fun q y10 d10 => ⟨pk_in (1 + 7 * l + 2) 140 (by omega), fin y10 ?_⟩⟩
    · rw [if_pos q] at hbk
      rw [d9, fa_or, hbk]
    · rw [if_neg q] at hbk
      rw [d10, fb_xorI, fa_or, hbk]
  · rw [if_neg c] at h
    exact h.bad hS hI (by decide)
theorem mm_pass {w : Wd} {b : Nat} {S : Sy} {Post : Int32 → Wd → Prop} (hS : S.ok b) (hb : b < 2 ^ 30) (hI : TI w S) (h : ML Post (pasA S)) : wp_X9_pass w Post := by
  have hg := hS.hg
  have h72 := chs_len hg S.r
  unfold wp_X9_pass
  unfold pasA at h
  refine wm_isOver hg hI.1.lg ?_
  rw [bI_0]
  refine ⟨fun c => ?_, fun c => br_le (by decide) ?_⟩
  · rw [if_neg (by rw [c]; decide)] at h
    refine wm_finds hg hI.1 (fun w1 hF1 _ => ?_)
    have hI1 := hI.frT hS hF1.T
    rw [le0 (by omega)]
    refine ⟨fun c2 => br_le0 ?_, fun c2 => br_le (by decide) ?_⟩
    · rw [if_pos c2] at h
      refine wm_keep hS (hI1.th hS 0) (fun w2 hI2 f2 => ?_)
      have hT2 : TD w2 18 0 S.g S.r := hI2.1
      refine wm_passes (b := b) hg hS.hr hb hT2 (fun w3 hT3 hF3 => ?_)
      have hI3 : TI w3 ((keepS S).sp (passP S.g S.r)) := TI.frA (p := passP S.g S.r) hS.keep hI2 hF3 hT3
      rw [show gA w3 18 55 = nI (1 - S.r.tu) from hT3.z.2.2.1]
      exact h.ok hI3 ((hF3.1 15 0).trans (f2.trans (th_g w1 0)))
    · rw [if_neg c2] at h
      exact h.bad hS hI1 (by decide)
  · rw [if_pos (by simpa using c)] at h
    exact h.bad hS hI (by decide)
theorem mm_playsOne {w : Wd} {b : Nat} {S : Sy} {Post : Wd → Prop} (hS : S.ok b) (hb : b < 2 ^ 30) (hI : TI w S) (h : ∀ w', TI w' (S.sp (playP S.g S.r)) → gI w' 15 0 = gI w 15 0 → Post w') : wp_X9_playsOne w Post := by
  have hg := hS.hg
  have hr := hS.hr
  have h72 := chs_len hg S.r
  unfold wp_X9_playsOne
  refine wm_finds hg hI.1 (fun w1 hF1 _ => ?_)
  have hI1 := hI.frT hS hF1.T
  rw [eq0 (by omega)]
  refine ⟨fun c => ?_, fun c => ?_⟩
  · have e : playP S.g S.r = passP S.g S.r := if_pos c
    rw [e] at h
    exact wm_passes (b := b) hg hr hb hI1.1 (fun w' hT' hF' => h w' (TI.frA (p := passP S.g S.r) hS hI1 hF' hT') ((hF'.1 15 0).trans (hF1.1 15 0 (by omega))))
  · have e : playP S.g S.r = stepP S.g S.r (plC S.g S.r).1 (plC S.g S.r).2.1 (plC S.g S.r).2.2 := if_neg c
    rw [e] at h
    have hc := plC_in c
    refine wm_bestOne hg hI1.1 (fun w2 hF2 => ?_)
    have hI2 := hI1.frT hS hF2.T
    have fin : ∀ w5, FrM w2 w5 → fdI w5 (plC S.g S.r) → wp_X9_steps w5 (gI w5 15 23) (gI w5 15 24) (gI w5 15 25) (fun w6 => Post w6) := fun w5 hF5 hf => by
      have hI5 := hI2.frT hS hF5.T
      rw [hf.1, hf.2.1, hf.2.2]
      exact wm_steps (b := b) hg hr hb hI5.1 hc (fun w' hT' hF' => h w' (TI.frA (p := stepP S.g S.r (plC S.g S.r).1 (plC S.g S.r).2.1 (plC S.g S.r).2.2) hS hI5 hF' hT') ((hF'.1 15 0).trans ((hF5.1 15 0 (by omega)).trans ((hF2.1 15 0 (by omega)).trans (hF1.1 15 0 (by omega))))))
    by_cases q : bestN S.g S.r < (chs S.g S.r).length
    · have eb : bestS S.g S.r = nI (bestN S.g S.r) := if_pos q
      have ec : plC S.g S.r = (chs S.g S.r).getD (bestN S.g S.r) (0, 0, 0) := by
        unfold plC
        rw [if_pos q]
      rw [ec] at fin
      rw [eb]
      refine ⟨fun c1 => absurd c1 (n1_ne (by omega)), fun _ => wm_finds hg hI2.1 (fun w5 hF5 hf => fin w5 hF5 (hf _ rfl q))⟩
    · have eb : bestS S.g S.r = -1 := if_neg q
      have ec : plC S.g S.r = (chs S.g S.r).getD 0 (0, 0, 0) := by
        unfold plC
        rw [if_neg q]
      rw [ec] at fin
      rw [eb]
      exact ⟨fun _ => wm_finds hg hI2.1 (fun w5 hF5 hf => fin w5 hF5 (hf 0 rfl (by omega))), fun c1 => absurd rfl c1⟩
theorem mm_play {w : Wd} {b : Nat} {S : Sy} {x : Int32} {Post : Int32 → Wd → Prop} (hS : S.ok b) (hb : b + 60 < 2 ^ 30) (hI : TI w S) (h : ML Post (plyA S x)) : wp_X9_play w x Post := by
  unfold wp_X9_play
  intro J hJ
  unfold plyA at h
  refine wm_within (fun c => ⟨fun _ => br_le (by decide) ?_, fun q => absurd rfl q⟩) (fun c => ⟨fun q => absurd q (by decide), fun _ => br_le0 ?_⟩)
  · rw [if_pos c] at h
    exact h.bad hS hI (by decide)
  obtain ⟨m, m1, m2, rfl⟩ := rng (a := 1) (b := 60) (by omega) (by omega) (fun q => c (Or.inl q)) (fun q => c (Or.inr q))
  rw [if_neg c, nI_clamp (by omega)] at h
  refine wm_keep hS (hI.th hS 0) (fun w1 hI1 f1 => ?_)
  have key : ∀ k i, i + k = m → ∀ p w', (plN k p).1 + i = (plN m S.p).1 → (plN k p).2 = (plN m S.p).2 → Ps.ok (b + i) p → sameS S.g p.1 → TI w' ((keepS S).sp p) → gI w' 15 0 = 0 → J (nI i) w' := by
    intro k
    induction k with
    | zero =>
      intro i hi p w' e1 e2 hp hs hI' f'
      refine hJ _ _ ⟨fun _ => ?_, fun c => ?_⟩
      · rw [← e1, ← e2] at h
        have h : ML Post (0, nI (0 + i), (keepS S).sp p) := h
        rw [Nat.zero_add] at h
        exact h.ok hI' f'
      · simp (disch := omega) only [nI_leI] at c
        omega
    | succ k ih =>
      intro i hi p w' e1 e2 hp hs hI' f'
      have hg : p.1.ok := hp.1
      have hSp : ((keepS S).sp p).ok (b + i) := (hS.keep.up (Nat.le_add_right b i)).sp hp hs
      have hT' : TD w' 18 0 p.1 p.2 := hI'.1
      rw [plN] at e1 e2
      refine hJ _ _ ⟨fun c => ?_, fun _ => ?_⟩
      · simp (disch := omega) only [nI_leI] at c
        omega
      refine wm_isOver hg hT'.lg ?_
      rw [bI_0]
      refine ⟨fun c => ?_, fun c => ?_⟩
      · rw [if_neg (by rw [c]; decide)] at e1 e2
        have e1 : (plN k (playP p.1 p.2)).1 + 1 + i = (plN m S.p).1 := e1
        have e2 : (plN k (playP p.1 p.2)).2 = (plN m S.p).2 := e2
        refine mm_playsOne hSp (by omega) hI' (fun w5 hI5 f5 y e => ?_)
        subst e
        rw [nI_1]
        exact ih (i + 1) (by omega) _ w5 (by omega) e2 (playP_ok (g := p.1) (r := p.2) hp) (hs.tr (playP_same p.1 p.2)) hI5 (f5.trans f')
      · rw [if_pos (by simpa using c)] at e1 e2
        have e1 : 0 + i = (plN m S.p).1 := e1
        have e2 : p = (plN m S.p).2 := e2
        rw [← e1, ← e2, Nat.zero_add] at h
        exact h.ok hI' f'
  exact key m 0 (Nat.zero_add _) S.p w1 (Nat.add_zero _) rfl hS.1 (sameS.rf _) hI1 (f1.trans (th_g w 0))

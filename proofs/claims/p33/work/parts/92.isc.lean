/-! isCounted answers true -/
theorem CL.mk {b : Int32 → Wd → Prop} {v : Int32} {S : Sy} (h : ∀ w1, CI w1 S → (gL w1 25 0).toInt32 = v → b 0 w1) : CL b (0, v, S) := fun w1 hC hv => h w1 hC (by
  have e : gL w1 25 0 = v.toInt64 := hv rfl
  rw [e]
  simp)
theorem CL.no {b : Int32 → Wd → Prop} {k v : Int32} {S : Sy} (h : ∀ w1, CI w1 S → b k w1) : CL b (k, v, S) := fun w1 hC _ => h w1 hC
theorem siz0 (S : Sy) : sizA S 0 = (0, nI S.g.n, S) := by
  unfold sizA sizV
  rw [if_neg (by decide), if_pos (by decide)]
theorem siz1 (S : Sy) : sizA S 1 = (0, nI S.r.tu, S) := by
  unfold sizA sizV
  rw [if_neg (by decide), if_neg (by decide), if_pos (by decide)]
theorem siz3 (S : Sy) : sizA S 3 = (0, bI (ovB S.g), S) := by
  unfold sizA sizV
  rw [if_neg (by decide), if_neg (by decide), if_neg (by decide), if_neg (by decide), if_pos (by decide)]
theorem siz4 (S : Sy) : sizA S 4 = (0, (if ovB S.g = true then 1 - nI S.r.tu else -1), S) := by
  unfold sizA sizV
  rw [if_neg (by decide), if_neg (by decide), if_neg (by decide), if_neg (by decide), if_neg (by decide), if_pos (by decide)]
theorem lno {n l : Nat} (hn : n ≤ 6) (hl : l < n) : ¬ (nI l < 0 ∨ nI n ≤ nI l) := by
  rintro (h | h)
  · exact nI_pos (by omega) h
  · rw [nI_leI (by omega) (by omega)] at h
    omega
theorem lad1 {S : Sy} {l : Nat} (hn : S.g.n ≤ 6) (hl : l < S.g.n) : ladA S (nI l) 1 = (0, nI (S.g.cn l), S) := by
  unfold ladA ladV
  rw [if_neg (lno hn hl), if_neg (by decide), if_neg (by decide), if_pos (by decide), nI_clamp (by omega)]
theorem lad2 {S : Sy} {l : Nat} (hn : S.g.n ≤ 6) (hl : l < S.g.n) : ladA S (nI l) 2 = (0, nI (S.g.cn l) - nI (pop (S.g.co l)), S) := by
  unfold ladA ladV
  rw [if_neg (lno hn hl), if_neg (by decide), if_neg (by decide), if_neg (by decide), if_pos (by decide), nI_clamp (by omega)]
theorem lad3 {S : Sy} {l : Nat} (hn : S.g.n ≤ 6) (hl : l < S.g.n) : ladA S (nI l) 3 = (0, nI (vNow S.g l), S) := by
  unfold ladA ladV
  rw [if_neg (lno hn hl), if_neg (by decide), if_neg (by decide), if_neg (by decide), if_neg (by decide), if_pos (by decide), nI_clamp (by omega)]
theorem set0 {S : Sy} {l : Nat} (hn : S.g.n ≤ 6) (hl : l < S.g.n) : setA S (nI l) 0 = (0, nI (S.g.co l), S) := by
  unfold setA setV
  rw [if_neg (lno hn hl), if_neg (by decide), if_pos (by decide), nI_clamp (by omega)]
theorem ldx {S : Sy} {l : Nat} (hn : S.g.n ≤ 6) (hl : l < S.g.n) (v : Nat → Int32) : ldA S (nI l) v = (0, v l, S) := by
  unfold ldA
  rw [if_neg (lno hn hl), nI_clamp (by omega)]
theorem val0 {S : Sy} {l : Nat} (hg : S.g.ok) (hl : l < S.g.n) : valA S (nI l) (nI (S.g.co l)) = (0, nI (vNow S.g l), S) := by
  have hn := hg.1
  obtain ⟨b1, b2, b3, b4, b5, b6, b7, b8, b9, b10⟩ := hg.2 l hl
  have h13 := S.g.co13 hg hl
  have hp : (2 : Nat) ^ (S.g.top l + 1) ≤ 2 ^ 13 := Nat.pow_le_pow_right (by decide) (by omega)
  have hc : canL S.g l (nI (S.g.co l)) = true := by
    unfold canL
    rw [nI_clamp (by omega)]
    refine decide_eq_true ⟨nI_pos (by omega), nI_lt b8 (by omega), b9, b10⟩
  unfold valA
  rw [if_neg (lno hn hl), nI_clamp (by omega), if_pos hc, nI_clamp (by omega)]
  rfl
theorem lgg_lt {l z m : Nat} (hm : isPos m = true) : lng l z m < 299 := by
  obtain ⟨m1, m2, m3⟩ := isPos_sp hm
  obtain ⟨x, hx⟩ := lng_way (l := l) (z := z) (m + 1) m (by omega) m2
  have h1 := way_pos hm hx
  have h2 := (rank_ok hm).1
  omega
theorem le00 {n : Nat} (hn : n < 2 ^ 31) : nI n ≤ 0 ↔ n = 0 := by
  rw [show (0 : Int32) = nI 0 from rfl, nI_leI hn (by omega)]
  omega
theorem wh_isCounted {w : Wd} {b : Nat} {S : Sy} {Post : Int32 → Wd → Prop} (hS : S.ok b) (hr : freeR S.g.n S.r) (hC : CI w S) (h : ∀ w', CI w' S → Post 1 w') : wp_L_isCounted w Post := by
  have hg := hS.hg
  have hn6 := hg.1
  unfold wp_L_isCounted
  intro J4 J67 J92 h4 h67 h92
  have key : ∀ k l, l + k = S.g.n → ∀ t, t ≤ 13 * l → ∀ w', CI w' S → J4 t (nI (fb_sm (stG S.g) l)) (nI l) w' := by
    intro k
    induction k with
    | zero =>
      intro l hl t ht w' hC'
      obtain rfl : l = S.g.n := by omega
      refine h4 _ _ _ _ ⟨by omega, ?_⟩
      refine cc_size hS hC' ?_
      rw [siz0]
      refine CL.mk (fun w1 hC1 e1 => ⟨rfl, ?_⟩)
      rw [e1]
      refine ⟨fun _ => ?_, fun c => absurd Int32.le_rfl c⟩
      refine cc_allowed hS hC1 ?_
      intro w2 hC2
      refine ⟨fun _ => h w2 hC2, fun c => absurd ?_ c⟩
      show nI (fb_sm (stG S.g) S.g.n) = nI (chs S.g S.r).length
      rw [chs_cnt hg hr]
    | succ k ih =>
      intro l hl t ht w' hC'
      have hln : l < S.g.n := by omega
      obtain ⟨b1, b2, b3, b4, b5, b6, b7, b8, b9, b10⟩ := hg.2 l hln
      have hm := S.g.pos hg hln
      have hst : stG S.g l < 2 ^ 31 := stG_lt S.g l
      have hlg := lgg_lt (l := S.g.lk l) (z := S.g.sz l) hm
      have hls : lng (S.g.lk l) (S.g.sz l) (S.g.co l) = 0 ↔ stG S.g l = 0 := lng_st b9
      have hcl := cntR_le (S.g.lk l) (S.g.sz l) (S.g.co l)
      have hcp := cntR_pos (l := S.g.lk l) (z := S.g.sz l) hm
      have hc2 := cntR_2 (l := S.g.lk l) (z := S.g.sz l) hm
      refine h4 _ _ _ _ ⟨by omega, ?_⟩
      refine cc_size hS hC' ?_
      rw [siz0]
      refine CL.mk (fun w1 hC1 e1 => ⟨rfl, ?_⟩)
      rw [e1]
      refine ⟨fun c => absurd c (fun q => lno hn6 hln (Or.inr q)), fun _ => ?_⟩
      refine cc_ladder hS hC1 ?_
      rw [lad1 hn6 hln]
      refine CL.mk (fun w3 hC3 e3 => ⟨rfl, ?_⟩)
      refine cc_set hS hC3 ?_
      rw [set0 hn6 hln]
      refine CL.mk (fun w4 hC4 e4 => ⟨rfl, ?_⟩)
      rw [e4]
      refine wh_bitCount (S.g.co13 hg hln) ?_
      refine cc_ladder hS hC4 ?_
      rw [lad2 hn6 hln]
      refine CL.mk (fun w6 hC6 e6 => ⟨rfl, ?_⟩)
      rw [e3, e6]
      have hadd : nI (S.g.cn l) = nI (pop (S.g.co l)) + (nI (S.g.cn l) - nI (pop (S.g.co l))) := by
        rw [pk_sub b10, nI_add]
        exact congrArg nI (by omega)
      refine ⟨fun _ => ?_, fun c => absurd hadd c⟩
      have step : ∀ w', CI w' S → J67 (t + 6) (nI (fb_sm (stG S.g) l)) (nI l) w' := by
        intro w' hC'
        refine h67 _ _ _ _ ⟨by omega, ?_⟩
        refine cc_positions hS hC' ?_
        rw [ldx hn6 hln]
        refine CL.mk (fun w10 hC10 e10 => ⟨rfl, ?_⟩)
        refine cc_stepsOn hS hC10 ?_
        rw [ldx hn6 hln]
        refine CL.mk (fun w11 hC11 e11 => ⟨rfl, ?_⟩)
        rw [e10, e11]
        have last : ∀ w', CI w' S → J92 (t + 6 + 2) (nI (fb_sm (stG S.g) l)) (nI l) w' := by
          intro w' hC'
          refine h92 _ _ _ _ ⟨by omega, ?_⟩
          refine cc_set hS hC' ?_
          rw [set0 hn6 hln]
          refine CL.mk (fun w12 hC12 e12 => ⟨rfl, ?_⟩)
          rw [e12]
          refine cc_valueOf hS hC12 ?_
          rw [val0 hg hln]
          refine CL.mk (fun w13 hC13 e13 => ⟨rfl, ?_⟩)
          refine cc_ladder hS hC13 ?_
          rw [lad3 hn6 hln]
          refine CL.mk (fun w14 hC14 e14 => ⟨rfl, ?_⟩)
          rw [e13, e14]
          refine ⟨fun _ => ?_, fun c => absurd rfl c⟩
          refine cc_meanValue hS hC14 (fun c => absurd c (lno hn6 hln)) (fun l' w15 hl' e' _ hC15 e15 => ⟨rfl, ?_⟩)
          have el : l = l' := nI_inj (by omega) (by omega) e'
          subst el
          rw [e15]
          refine ⟨fun _ => ?_, fun c => absurd (mnD_ge hm b5) c⟩
          refine cc_stepsOn hS hC15 ?_
          rw [ldx hn6 hln]
          refine CL.mk (fun w16 hC16 e16 => ⟨rfl, ?_⟩)
          rw [e16]
          intro y1 ey1 y2 ey2
          subst ey1 ey2
          have e1 : nI (fb_sm (stG S.g) l) + stoV S l = nI (fb_sm (stG S.g) (l + 1)) := nI_add _ _
          rw [e1, nI_1]
          exact ih (l + 1) (by omega) _ (by omega) w16 hC16
        have e2 : stoV S l = nI (stG S.g l) := rfl
        have e3 : posV S l = nI (cntR (S.g.lk l) (S.g.sz l) (S.g.co l)) := rfl
        rw [e2, e3]
        refine ⟨fun c => ⟨fun _ => last w11 hC11, fun c2 => absurd ?_ c2⟩, fun c => ⟨fun _ => last w11 hC11, fun c2 => absurd ?_ c2⟩⟩
        · show nI 1 ≤ _
          rw [nI_leI (by omega) (by omega)]
          omega
        · rw [le00 hst] at c
          have := hc2 c
          show nI 2 ≤ _
          rw [nI_leI (by omega) (by omega)]
          omega
      refine cc_longest hS hC6 ?_
      rw [ldx hn6 hln]
      refine CL.mk (fun w7 hC7 e7 => ⟨rfl, ?_⟩)
      have e8 : lonV S l = nI (lng (S.g.lk l) (S.g.sz l) (S.g.co l)) := rfl
      rw [e7, e8]
      refine ⟨fun c => ?_, fun c => ?_⟩
      · rw [le00 (by omega)] at c
        refine cc_stepsOn hS hC7 ?_
        rw [ldx hn6 hln]
        refine CL.mk (fun w8 hC8 e9 => ⟨rfl, ?_⟩)
        have e10 : stoV S l = nI (stG S.g l) := rfl
        rw [e9, e10]
        exact ⟨fun _ => step w8 hC8, fun c2 => absurd ((le00 hst).mpr (hls.mp c)) c2⟩
      · rw [le00 (by omega)] at c
        refine cc_stepsOn hS hC7 ?_
        rw [ldx hn6 hln]
        refine CL.mk (fun w8 hC8 e9 => ⟨rfl, ?_⟩)
        have e10 : stoV S l = nI (stG S.g l) := rfl
        rw [e9, e10]
        exact ⟨fun c2 => absurd (hls.mpr ((le00 hst).mp c2)) c, fun _ => step w8 hC8⟩
  exact key S.g.n 0 (by omega) 0 (Nat.zero_le _) w hC

/-! the law, from what its text making leaves -/
def BegOK (S : Sy) : Prop := S.g.n ≤ 3 ∧ (∀ l, l < S.g.n → S.g.top l ≤ 9) ∧ freeR S.g.n S.r
theorem ply1 {S : Sy} (h : ovB S.g = false) : plyA S 1 = (0, 1, (keepS S).sp (playP S.g S.r)) := by
  unfold plyA
  rw [if_neg (by decide), show (1 : Int32).toNatClampNeg = 1 from rfl]
  have e : plN 1 S.p = (1, playP S.g S.r) := by
    rw [plN, if_neg (by show ¬ ovB S.g = true; rw [h]; decide)]
    rfl
  rw [e]
  rfl
theorem ply0 {S : Sy} (h : ovB S.g = true) : plyA S 1 = (0, 0, (keepS S).sp S.p) := by
  unfold plyA
  rw [if_neg (by decide), show (1 : Int32).toNatClampNeg = 1 from rfl]
  have e : plN 1 S.p = (0, S.p) := by
    rw [plN, if_pos (show ovB S.p.1 = true from h)]
  rw [e]
  rfl
theorem tu_sub {a f : Nat} (ha : a ≤ 1) (hf : f ≤ 1) (h : a ≠ f) : (1 : Int32) - nI a = nI f := by
  rcases (show a = 0 ∧ f = 1 ∨ a = 1 ∧ f = 0 by omega) with ⟨rfl, rfl⟩ | ⟨rfl, rfl⟩ <;> rfl
theorem law_from {N : Nat} {X : Nat → Int32} (hbeg : ∀ (w : Wd) (Post : Int32 → Wd → Prop), CI w S00 → (∀ w' S' b, b ≤ 10000 → S'.ok b → bufOK S' → BegOK S' → CI w' S' → Post 1 w') → wp_L_begins N X w Post) : ∀ w, St0 w → wp_law N X w := by
  intro w0 hw0
  unfold wp_law
  intro J53 J114 J117 J217 J146 J253 J164 J193 h53 h114 h117 h217 h146 h253 h164 h193
  -- the end
  have end3 : ∀ (S : Sy) (b t : Nat) (w : Wd), t ≤ 900 → S.ok b → b ≤ 20000 → bufOK S → CI w S → ovB S.g = true → J253 t w := by
    intro S b t w ht hS hb hB hC hov
    refine h253 _ _ ⟨by omega, ?_⟩
    refine cc_allowed hS hC ?_
    intro w1 hC1
    have e0 : (allA S).2.1 = 0 := by
      show nI (chs S.g S.r).length = 0
      rw [over_chs hS.hg hov]
      rfl
    rw [e0]
    refine ⟨fun _ => ?_, fun c => absurd rfl c⟩
    have hA := okA_play (x := 1) hS hB
    refine cc_play hS (by omega) hC1 ?_
    rw [ply0 hov] at hA ⊢
    refine CL.mk (fun w2 hC2 e2 => ⟨rfl, ?_⟩)
    rw [e2]
    refine ⟨fun _ => ?_, fun c => absurd rfl c⟩
    unfold wp_L_refuses
    have hS2 : ((keepS S).sp S.p).ok (b + 60) := hA.1
    refine cc_pass hS2 (by omega) hC2 ?_
    have e3 : pasA ((keepS S).sp S.p) = (1, 0, (keepS S).sp S.p) := if_pos hov
    rw [e3]
    exact CL.no (fun w3 _ => ⟨rfl, fun c => absurd c (by decide), fun _ => trivial⟩)
  have end2 : ∀ (S : Sy) (b t f : Nat) (W : Bool) (w : Wd), t ≤ 800 → S.ok b → b ≤ 20000 → bufOK S → CI w S → ovB S.g = true → f ≤ 1 → decide (sumTo S.g S.g.n ≠ 0) = (W == decide (S.r.tu = f)) → J217 t (nI f) (bI W) w := by
    intro S b t f W w ht hS hb hB hC hov hf hrel
    have htu : S.r.tu ≤ 1 := hS.hr.1
    have hs := over_sum hS.hg hov
    refine h217 _ _ _ _ ⟨by omega, ?_⟩
    refine cc_size hS hC ?_
    rw [siz3, hov]
    refine CL.mk (fun w1 hC1 e1 => ⟨rfl, ?_⟩)
    rw [e1]
    refine ⟨fun _ => ?_, fun c => absurd rfl c⟩
    refine cc_sum hS hC1 ?_
    intro w2 hC2
    have e0 : (sumA S).2.1 = 0 := by
      show nI (sumTo S.g S.g.n) = 0
      rw [hs]
      rfl
    rw [e0]
    refine ⟨fun _ => ?_, fun c => absurd rfl c⟩
    refine cc_size hS hC2 ?_
    rw [siz4, if_pos hov]
    refine CL.mk (fun w3 hC3 e3 => ⟨rfl, ?_⟩)
    rw [e3]
    have hrel2 : false = (W == decide (S.r.tu = f)) := by
      rw [← hrel, hs]
      rfl
    cases W with
    | false =>
      have ht : S.r.tu = f := by
        by_cases q : S.r.tu = f
        · exact q
        · rw [decide_eq_false q] at hrel2
          cases hrel2
      refine ⟨fun _ => ⟨fun _ => end3 S b _ w3 (by omega) hS hb hB hC3 hov, fun c => absurd (by rw [ht]) c⟩, fun c => absurd rfl c⟩
    | true =>
      have ht : S.r.tu ≠ f := by
        intro q
        rw [decide_eq_true q] at hrel2
        cases hrel2
      exact ⟨fun c => absurd c (by decide), fun _ => ⟨fun _ => end3 S b _ w3 (by omega) hS hb hB hC3 hov, fun c => absurd (tu_sub htu hf ht) c⟩⟩
  -- the play
  have play : ∀ m, ∀ (k : Nat) (S : Sy) (b t f : Nat) (W : Bool) (w : Wd), wG S.g < m → k + m ≤ 82 → t ≤ 300 + 3 * k → S.ok b → b ≤ 10000 + 60 * k → bufOK S → freeR S.g.n S.r → CI w S → f ≤ 1 → decide (sumTo S.g S.g.n ≠ 0) = (W == decide (S.r.tu = f)) → J117 t (nI f) (bI W) (nI k) w := by
    intro m
    induction m with
    | zero =>
      intro k S b t f W w h
      omega
    | succ m ih =>
      intro k S b t f W w hwg hkm ht hS hb hB hF hC hf hrel
      have hg := hS.hg
      have htu : S.r.tu ≤ 1 := hS.hr.1
      refine h117 _ _ _ _ _ ⟨by omega, fun c => ?_, fun _ => ?_⟩
      · have c : nI 90 ≤ nI k := c
        rw [nI_leI (by omega) (by omega)] at c
        omega
      refine cc_size hS hC ?_
      rw [siz3]
      refine CL.mk (fun w1 hC1 e1 => ⟨rfl, ?_⟩)
      rw [e1]
      cases hov : ovB S.g with
      | true => exact ⟨fun c => absurd c (by decide), fun _ => end2 S b _ f W w1 (by omega) hS (by omega) hB hC1 hov hf hrel⟩
      | false =>
        refine ⟨fun _ => ?_, fun c => absurd rfl c⟩
        have hne := nover_chs hg hF hov
        obtain ⟨p1, p2, p3, p4, p5, p6⟩ := play_facts hg hF hne
        have hA := okA_play (x := 1) hS hB
        rw [ply1 hov] at hA
        have hS2 : ((keepS S).sp (playP S.g S.r)).ok (b + 60) := hA.1
        have hB2 : bufOK ((keepS S).sp (playP S.g S.r)) := hA.2
        have k193 : ∀ w, CI w S → J193 (t + 2) (nI f) (bI W) (nI k) w := by
          intro w hC
          refine h193 _ _ _ _ _ ⟨by omega, ?_⟩
          refine cc_play hS (by omega) hC ?_
          rw [ply1 hov]
          refine CL.mk (fun w2 hC2 e2 => ⟨rfl, ?_⟩)
          rw [e2]
          refine ⟨fun _ => ?_, fun c => absurd rfl c⟩
          refine cc_isRight hS2 hC2 ?_
          intro w3 hC3
          refine ⟨fun c => absurd c (show ¬ (1 : Int32) = 0 by decide), fun _ => ?_⟩
          intro y4 e4
          subst e4
          rw [nI_1]
          refine ih (k + 1) ((keepS S).sp (playP S.g S.r)) (b + 60) _ f W w3 (by show wG (playP S.g S.r).1 < m; omega) (by omega) (by omega) hS2 (by omega) hB2 (by show freeR (playP S.g S.r).1.n (playP S.g S.r).2; rw [p1]; exact p4) hC3 hf ?_
          show decide (sumTo (playP S.g S.r).1 (playP S.g S.r).1.n ≠ 0) = (W == decide ((playP S.g S.r).2.tu = f))
          rw [p1, p5]
          have d1 : decide (sumTo (playP S.g S.r).1 S.g.n ≠ 0) = !decide (sumTo S.g S.g.n ≠ 0) := by
            by_cases q : sumTo S.g S.g.n = 0
            · rw [decide_eq_false (show ¬ (sumTo S.g S.g.n ≠ 0) from fun z => z q), decide_eq_true (show sumTo (playP S.g S.r).1 S.g.n ≠ 0 from fun z => p3.mp z q)]
              rfl
            · rw [decide_eq_true (show sumTo S.g S.g.n ≠ 0 from q), decide_eq_false (show ¬ sumTo (playP S.g S.r).1 S.g.n ≠ 0 from fun z => z (p3.mpr q))]
              rfl
          have d2 : decide (1 - S.r.tu = f) = !decide (S.r.tu = f) := by
            by_cases q : S.r.tu = f
            · rw [decide_eq_true q, decide_eq_false (by omega)]
              rfl
            · rw [decide_eq_false q, decide_eq_true (by omega)]
              rfl
          rw [d1, d2, hrel]
          cases W <;> cases decide (S.r.tu = f) <;> rfl
        have k164 : ∀ w, CI w S → J164 (t + 1) (nI f) (bI W) (nI k) (bI (decide (sumTo S.g S.g.n ≠ 0))) w := by
          intro w hC
          refine h164 _ _ _ _ _ _ ⟨by omega, ?_⟩
          refine cc_size hS hC ?_
          rw [siz1]
          refine CL.mk (fun w2 hC2 e2 => ⟨rfl, ?_⟩)
          rw [e2, hrel]
          have hq : nI S.r.tu = nI f ↔ S.r.tu = f := nI_eq (by omega) (by omega)
          have fin := k193 w2 hC2
          refine ⟨fun c => ?_, fun c => ?_⟩
          · rw [decide_eq_true (hq.mp c)]
            cases W with
            | false => exact ⟨fun c => absurd c (by decide), fun _ => ⟨fun _ => fin, fun c => absurd rfl c⟩⟩
            | true => exact ⟨fun _ => ⟨fun _ => fin, fun c => absurd rfl c⟩, fun c => absurd rfl c⟩
          · rw [decide_eq_false (fun z => c (hq.mpr z))]
            cases W with
            | false => exact ⟨fun _ => ⟨fun _ => fin, fun c => absurd rfl c⟩, fun c => absurd rfl c⟩
            | true => exact ⟨fun c => absurd c (by decide), fun _ => ⟨fun _ => fin, fun c => absurd rfl c⟩⟩
        have k146 : ∀ w, CI w S → J146 (t + 1) (nI f) (bI W) (nI k) (bI (decide (sumTo S.g S.g.n ≠ 0))) w := by
          intro w hC
          refine h146 _ _ _ _ _ _ ⟨by omega, ?_⟩
          refine cc_best hS hC ?_
          intro w2 hC2
          have fin := k164 w2 hC2
          have hbs := bestS_iff hg hF
          refine ⟨fun c => ⟨fun c2 => ?_, fun _ => fin⟩, fun c => ⟨fun c2 => ?_, fun _ => fin⟩⟩
          · have c : bestS S.g S.r = -1 := c
            rw [decide_eq_false (show ¬ (sumTo S.g S.g.n ≠ 0) from fun z => z (hbs.mp c))] at c2
            exact absurd c2 (by decide)
          · have c : ¬ bestS S.g S.r = -1 := c
            rw [decide_eq_true (show sumTo S.g S.g.n ≠ 0 from fun z => c (hbs.mpr z))] at c2
            exact absurd c2 (by decide)
        refine cc_sum hS hC1 ?_
        intro w2 hC2
        have fin := k146 w2 hC2
        have hlt := sumTo_lt hg S.g.n (Nat.le_refl _)
        have hz : nI (sumTo S.g S.g.n) = 0 ↔ sumTo S.g S.g.n = 0 := nI_eq (b := 0) (by omega) (by omega)
        refine ⟨fun c => ?_, fun c => ?_⟩
        · have c : nI (sumTo S.g S.g.n) = 0 := c
          rw [decide_eq_false (show ¬ (sumTo S.g S.g.n ≠ 0) from fun z => z (hz.mp c))] at fin
          exact fin
        · have c : ¬ nI (sumTo S.g S.g.n) = 0 := c
          rw [decide_eq_true (show sumTo S.g S.g.n ≠ 0 from fun z => c (hz.mpr z))] at fin
          exact fin
  -- the sum of all ladders
  have sums : ∀ (S : Sy) (b : Nat), S.ok b → b ≤ 10000 → bufOK S → BegOK S → ∀ k l, l + k = S.g.n → ∀ t, t ≤ 132 + 2 * l → ∀ w, CI w S → J53 t (nI S.r.tu) (nI (sumTo S.g l)) (nI l) w := by
    intro S b hS hb hB hG k
    have hg := hS.hg
    have hn3 := hG.1
    have htu : S.r.tu ≤ 1 := hS.hr.1
    induction k with
    | zero =>
      intro l hl t ht w hC
      obtain rfl : l = S.g.n := by omega
      refine h53 _ _ _ _ _ ⟨by omega, ?_⟩
      refine cc_size hS hC ?_
      rw [siz0]
      refine CL.mk (fun w1 hC1 e1 => ⟨rfl, ?_⟩)
      rw [e1]
      refine ⟨fun _ => ?_, fun c => absurd Int32.le_rfl c⟩
      refine cc_sum hS hC1 ?_
      intro w2 hC2
      refine ⟨fun _ => ?_, fun c => absurd rfl c⟩
      refine cc_isRight hS hC2 ?_
      intro w3 hC3
      refine ⟨fun c => absurd c (show ¬ (1 : Int32) = 0 by decide), fun _ => ?_⟩
      refine wh_isCounted hS hG.2.2 hC3 (fun w4 hC4 => ⟨fun c => absurd c (by decide), fun _ => ?_⟩)
      have hlt := sumTo_lt hg S.g.n (Nat.le_refl _)
      have hz : nI (sumTo S.g S.g.n) = 0 ↔ sumTo S.g S.g.n = 0 := nI_eq (b := 0) (by omega) (by omega)
      have fin : J117 (t + 131) (nI S.r.tu) (bI (decide (sumTo S.g S.g.n ≠ 0))) (nI 0) w4 := by
        have hw := wG_le hg hn3 hG.2.1
        refine play 82 0 S b _ S.r.tu _ w4 (by omega) (by omega) (by omega) hS (by omega) hB hG.2.2 hC4 htu ?_
        rw [decide_eq_true (rfl : S.r.tu = S.r.tu)]
        cases decide (sumTo S.g S.g.n ≠ 0) <;> rfl
      refine ⟨fun c => h114 _ _ _ _ ⟨by omega, ?_⟩, fun c => h114 _ _ _ _ ⟨by omega, ?_⟩⟩
      · rw [decide_eq_false (show ¬ (sumTo S.g S.g.n ≠ 0) from fun z => z (hz.mp c))] at fin
        exact fin
      · rw [decide_eq_true (show sumTo S.g S.g.n ≠ 0 from fun z => c (hz.mpr z))] at fin
        exact fin
    | succ k ih =>
      intro l hl t ht w hC
      have hln : l < S.g.n := by omega
      refine h53 _ _ _ _ _ ⟨by omega, ?_⟩
      refine cc_size hS hC ?_
      rw [siz0]
      refine CL.mk (fun w1 hC1 e1 => ⟨rfl, ?_⟩)
      rw [e1]
      refine ⟨fun c => absurd c (fun q => lno (by omega) hln (Or.inr q)), fun _ => ?_⟩
      refine cc_ladder hS hC1 ?_
      rw [lad3 (by omega) hln]
      refine CL.mk (fun w2 hC2 e2 => ⟨rfl, ?_⟩)
      rw [e2]
      intro y2 ey2 y3 ey3
      subst ey2 ey3
      rw [fb_xorI, nI_1]
      exact ih (l + 1) (by omega) _ (by omega) w2 hC2
  -- the start
  have hC0 := S00_C hw0
  refine cc_size S00_ok hC0 ?_
  rw [siz3]
  refine CL.mk (fun w1 hC1 e1 => ⟨rfl, ?_⟩)
  rw [e1]
  refine ⟨fun _ => ?_, fun c => absurd (by decide) c⟩
  refine cc_sum S00_ok hC1 ?_
  intro w2 hC2
  refine ⟨fun _ => ?_, fun c => absurd rfl c⟩
  refine cc_undo S00_ok hC2 ?_
  intro w3 hC3
  refine ⟨fun _ => ?_, fun c => absurd rfl c⟩
  refine hbeg w3 _ hC3 (fun w4 S b hb hS hB hG hC4 => ⟨fun c => absurd c (by decide), fun _ => ?_⟩)
  refine cc_size hS hC4 ?_
  rw [siz1]
  refine CL.mk (fun w5 hC5 e5 => ⟨rfl, ?_⟩)
  intro y1 ey1
  rw [e5] at ey1
  subst ey1
  exact sums S b hS hb hB hG S.g.n 0 (by omega) _ (by omega) w5 hC5

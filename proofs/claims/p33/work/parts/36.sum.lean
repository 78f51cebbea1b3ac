/-! the class: the sum now, the value now, and that it is right -/
def vNow (g : Gm) (l : Nat) : Nat := val (g.lk l) (g.sz l) (g.co l)
def sumTo (g : Gm) : Nat → Nat
  | 0 => 0
  | k + 1 => sumTo g k ^^^ vNow g k
theorem wh_valueNow {w : Wd} {g : Gm} {l : Nat} {Post : Int32 → Wd → Prop} (hg : g.ok) (hG : GC w g) (hl : l < g.n) (h : ∀ w', GC w' g → FrC w w' → Post (nI (vNow g l)) w') : wp_X0_valueNow w (nI l) Post := by
  unfold wp_X0_valueNow
  have hl6 : l < 6 := Nat.lt_of_lt_of_le hl hg.1
  obtain ⟨a1, a2, a3, a4, a5⟩ := hG.2.1 l hl
  refine ⟨pk_in l 6 hl6, ?_⟩
  rw [nI_clamp (by omega)]
  show wp_X0_valueWith w (nI l) (gA w 54 l) _
  rw [a4]
  exact wh_valueWith hg hG hl (g.pos hg hl) (hg.2 l hl).2.2.2.2.2.2.2.2.2 h
theorem wh_sumNow {w : Wd} {g : Gm} {Post : Int32 → Wd → Prop} (hg : g.ok) (hG : GC w g) (h : ∀ w', GC w' g → FrC w w' → Post (nI (sumTo g g.n)) w') : wp_X0_sumNow w Post := by
  unfold wp_X0_sumNow
  intro J hJ
  have hn6 := hg.1
  have key : ∀ k l, l + k = g.n → ∀ w', GC w' g → FrC w w' → J (nI (sumTo g l)) (nI l) w' := by
    intro k
    induction k with
    | zero =>
      intro l hl w' hG' hF
      obtain rfl : l = g.n := by omega
      have e : gI w' (27 + 7 * 1) 6 = nI g.n := hG'.1
      refine hJ _ _ _ ⟨fun _ => h w' hG' hF, fun c => ?_⟩
      rw [e] at c
      simp (disch := omega) only [nI_leI] at c
      omega
    | succ k ih =>
      intro l hl w' hG' hF
      have hln : l < g.n := by omega
      have e : gI w' (27 + 7 * 1) 6 = nI g.n := hG'.1
      refine hJ _ _ _ ⟨fun c => ?_, fun _ => ⟨pk_in l 6 (by omega), ?_⟩⟩
      · rw [e] at c
        simp (disch := omega) only [nI_leI] at c
        omega
      · obtain ⟨a1, a2, a3, a4, a5⟩ := hG'.2.1 l hln
        rw [nI_clamp (by omega)]
        show wp_X0_valueWith w' (nI l) (gA w' 54 l) _
        rw [a4]
        refine wh_valueWith hg hG' hln (g.pos hg hln) (hg.2 l hln).2.2.2.2.2.2.2.2.2 (fun w2 hG2 hF2 => ?_)
        intro y1 e1 y2 e2
        subst e1 e2
        rw [fb_xorI, nI_1]
        exact ih (l + 1) (by omega) w2 hG2 (hF.tr hF2)
  exact key g.n 0 (by omega) w hG (FrC.rf w)
theorem VCs.s7 {w : Wd} (h : VCs w) (B : Nat → Int32) : VCs (sF w 7 B) := by
  intro j hj
  obtain ⟨cc', z', l', f', ⟨a1, a2, a3, a4, a5, a6⟩, hr⟩ := h j hj
  refine ⟨cc', z', l', f', ⟨a1, a2, a3, a4, a5, fun r hr => ?_⟩, hr⟩
  rw [gA_sF, if_neg (by omega)]
  exact a6 r hr
theorem FrC.s7 (w : Wd) (B : Nat → Int32) : FrC w (sF w 7 B) := ⟨fun _ _ _ => rfl, fun o i _ h7 => by rw [gA_sF, if_neg h7], rfl⟩
theorem wh_hasRight {w : Wd} {g : Gm} {l : Nat} {Post : Int32 → Wd → Prop} (hg : g.ok) (hG : GC w g) (hl : l < g.n) (h : ∀ w', GC w' g → FrC w w' → Post 1 w') : wp_X0_hasRightValue w (nI l) Post := by
  unfold wp_X0_hasRightValue
  have hl6 : l < 6 := Nat.lt_of_lt_of_le hl hg.1
  obtain ⟨b1, b2, b3, b4, b5, b6, b7, b8, b9, b10⟩ := hg.2 l hl
  have hm := g.pos hg hl
  obtain ⟨m1, m2, m3⟩ := isPos_sp hm
  obtain ⟨r1, r2⟩ := rank_ok hm
  refine wh_valuesOf hg hG hl (fun w1 f hV hG1 hF1 => ⟨pk_in l 6 hl6, ?_⟩)
  obtain ⟨a1, a2, a3, a4, a5⟩ := hG1.2.1 l hl
  rw [nI_clamp (by omega)]
  show wp_X3_isRightAt l w1 (gA w1 54 l) _
  rw [a4]
  unfold wp_X3_isRightAt
  refine wh_rankOf (by omega) ?_
  refine wh_valueAt r1 b6 b7 b4 b5 b3 300 w1 f (by omega) hV hG1.2.2.1 (fun w2 f2 hr2 hV2 hF2 => ?_)
  have e : vR (g.cn l) (g.sz l) (g.lk l) (rankN (g.co l)) = vNow g l := by
    unfold vR
    rw [r2, if_neg (by omega)]
    rfl
  rw [e]
  have hG2 : GC w2 g := hG1.fr (hF2.C hl6) (VCs.one hG1.2.2.2 hF2 hV2 b3 b4 b5 b6 b7)
  refine wh_valuesBehind hm b6 b7 b4 b5 hV2.2.1 hV2.2.2.1 (fun x hx => ?_) (fun B q hq hqb => ?_)
  · obtain ⟨p1, p2, p3⟩ := nxs_pos hm hx
    rw [hV2.2.2.2.2.2 _ (by omega)]
    rw [(rank_ok p1).2, if_neg (by omega)]
  · have hv12 : vNow g l ≤ 12 := val_le m2 m3 b5
    have em : vNow g l = mex (fun v => (nxs (g.lk l) (g.sz l) (g.co l)).any (fun x => val (g.lk l) (g.sz l) x == v)) := val_eq m2
    have q0 : q.testBit (vNow g l) = false := by
      rw [hqb]
      have := mex_no (fun v => (nxs (g.lk l) (g.sz l) (g.co l)).any (fun x => val (g.lk l) (g.sz l) x == v)) (by omega)
      rw [← em] at this
      exact this
    have q1 : ∀ u, u < vNow g l → q.testBit u = true := fun u hu => by
      rw [hqb]
      exact mex_lt (fun v => (nxs (g.lk l) (g.sz l) (g.co l)).any (fun x => val (g.lk l) (g.sz l) x == v)) (by omega)
    intro y1 ey
    have hp : 1 ≤ 2 ^ vNow g l := Nat.one_le_two_pow
    rw [nI_shl1 (by omega), show nI (2 ^ vNow g l) - 1 = nI (2 ^ vNow g l - 1) from pk_sub (b := 1) hp] at ey
    subst ey
    refine wh_hasBit (by omega) (by omega) ?_
    rw [q0]
    have hand : q &&& (2 ^ vNow g l - 1) = 2 ^ vNow g l - 1 := by
      apply Nat.eq_of_testBit_eq
      intro i
      rw [Nat.testBit_and, Nat.testBit_two_pow_sub_one]
      by_cases hi : i < vNow g l
      · rw [q1 i hi]; simp [hi]
      · simp [hi]
    refine ⟨fun _ => ⟨fun _ => ⟨Or.inr rfl, ?_⟩, fun c => absurd (by rw [fa_and, hand]) c⟩, fun c => absurd rfl c⟩
    exact h _ (hG2.fr (FrC.s7 w2 B) (hG2.2.2.2.s7 B)) ((hF1.tr (hF2.C hl6)).tr (FrC.s7 w2 B))

/-! the class's game in numbers: n ladders; of each its top, how many coins, sizes, coins, locks -/
def Gm : Type := Nat × (Nat → Nat) × (Nat → Nat) × (Nat → Nat) × (Nat → Nat) × (Nat → Nat)
def Gm.n (g : Gm) : Nat := g.1
def Gm.top (g : Gm) : Nat → Nat := g.2.1
def Gm.cn (g : Gm) : Nat → Nat := g.2.2.1
def Gm.sz (g : Gm) : Nat → Nat := g.2.2.2.1
def Gm.co (g : Gm) : Nat → Nat := g.2.2.2.2.1
def Gm.lk (g : Gm) : Nat → Nat := g.2.2.2.2.2
/-- what the rules keep -/
def Gm.ok (g : Gm) : Prop := g.n ≤ 6 ∧ ∀ l, l < g.n → 1 ≤ g.top l ∧ g.top l ≤ 12 ∧ g.cn l ≤ 3 ∧ g.sz l < 8192 ∧ pop (g.sz l) ≤ 4 ∧ g.lk l < 8192 ∧ (g.lk l).testBit 0 = false ∧ g.co l < 2 ^ (g.top l + 1) ∧ (g.co l).testBit 0 = false ∧ pop (g.co l) ≤ g.cn l
def VCs (w : Wd) : Prop := ∀ k, k < 6 → ∃ cc z l f, VC w k cc z l f ∧ cc ≤ 3 ∧ z < 8192 ∧ pop z ≤ 4 ∧ l < 8192 ∧ l.testBit 0 = false
def GC (w : Wd) (g : Gm) : Prop := gI w 34 6 = nI g.n ∧ (∀ l, l < g.n → gA w 35 l = nI (g.top l) ∧ gA w 36 l = nI (g.cn l) ∧ gA w 37 l = nI (g.sz l) ∧ gA w 54 l = nI (g.co l) ∧ gA w 55 l = nI (g.lk l)) ∧ (∀ i, i < 299 → gA w 6 i = nI (posN i)) ∧ VCs w
/-- all but the caches and the list behind -/
def FrC (w w' : Wd) : Prop := (∀ o s, ¬ (41 ≤ o ∧ o < 53) → gI w' o s = gI w o s) ∧ (∀ o i, ¬ (41 ≤ o ∧ o < 53) → o ≠ 7 → gA w' o i = gA w o i) ∧ w'.2.2 = w.2.2
theorem FrC.rf (w : Wd) : FrC w w := ⟨fun _ _ _ => rfl, fun _ _ _ _ => rfl, rfl⟩
theorem FrC.tr {a b c : Wd} (h : FrC a b) (g : FrC b c) : FrC a c := ⟨fun o s q => (g.1 o s q).trans (h.1 o s q), fun o i q r => (g.2.1 o i q r).trans (h.2.1 o i q r), g.2.2.trans h.2.2⟩
theorem FrV.C {k : Nat} (hk : k < 6) {w w' : Wd} (h : FrV k w w') : FrC w w' := ⟨fun o s q => h.1 o s (by omega), fun o i q r => h.2.1 o i r (by omega), h.2.2⟩
theorem GC.fr {w w' : Wd} {g : Gm} (h : GC w g) (hF : FrC w w') (hV : VCs w') : GC w' g := by
  obtain ⟨h1, h2, h3, h4⟩ := h
  refine ⟨(hF.1 34 6 (by omega)).trans h1, fun l hl => ?_, fun i hi => (hF.2.1 6 i (by omega) (by decide)).trans (h3 i hi), hV⟩
  obtain ⟨a1, a2, a3, a4, a5⟩ := h2 l hl
  exact ⟨(hF.2.1 35 l (by omega) (by decide)).trans a1, (hF.2.1 36 l (by omega) (by decide)).trans a2, (hF.2.1 37 l (by omega) (by decide)).trans a3, (hF.2.1 54 l (by omega) (by decide)).trans a4, (hF.2.1 55 l (by omega) (by decide)).trans a5⟩
theorem VCs.one {w w' : Wd} {k cc z l f : Nat} (h : VCs w) (hF : FrV k w w') (hV : VC w' k cc z l f) (h1 : cc ≤ 3) (h2 : z < 8192) (h3 : pop z ≤ 4) (h4 : l < 8192) (h5 : l.testBit 0 = false) : VCs w' := by
  intro j hj
  by_cases e : j = k
  · subst e
    exact ⟨cc, z, l, f, hV, h1, h2, h3, h4, h5⟩
  · obtain ⟨cc', z', l', f', ⟨a1, a2, a3, a4, a5, a6⟩, hr⟩ := h j hj
    refine ⟨cc', z', l', f', ⟨?_, ?_, ?_, ?_, a5, fun r hr => ?_⟩, hr⟩
    · rw [hF.1 _ _ (by omega)]; exact a1
    · rw [hF.1 _ _ (by omega)]; exact a2
    · rw [hF.1 _ _ (by omega)]; exact a3
    · rw [hF.1 _ _ (by omega)]; exact a4
    · rw [hF.2.1 _ _ (by omega) (by omega)]; exact a6 r hr
theorem nI_inj {a b : Nat} (ha : a < 2 ^ 31) (hb : b < 2 ^ 31) (h : nI a = nI b) : a = b := (nI_eq ha hb).mp h
theorem wh_setFor {k cc z l : Nat} {w : Wd} {Post : Wd → Prop} (hk : k < 6) (hs : VCs w) (h1 : cc ≤ 3) (h2 : z < 8192) (h3 : pop z ≤ 4) (h4 : l < 8192) (h5 : l.testBit 0 = false) (h : ∀ w' f, VC w' k cc z l f → FrV k w w' → Post w') : wp_X3_setFor k w (nI cc) (nI z) (nI l) Post := by
  unfold wp_X3_setFor
  obtain ⟨cc', z', l', f', hV, b1, b2, b3, b4, b5⟩ := hs k hk
  obtain ⟨a1, a2, a3, a4, a5, a6⟩ := id hV
  have new : Post (sI (sI (sI (sI w (41 + 2 * k) 1 (nI cc)) (41 + 2 * k) 2 (nI z)) (41 + 2 * k) 3 (nI l)) (41 + 2 * k) 4 0) := by
    refine h _ 0 ⟨?_, ?_, ?_, ?_, by omega, fun r hr => absurd hr (by omega)⟩ ⟨fun o s ho => ?_, fun o i _ _ => rfl, rfl⟩
    · simp [gI_sI]
    · simp [gI_sI]
    · simp [gI_sI]
    · simp [gI_sI]; rfl
    · simp [gI_sI, ho]
  rw [a1, a2, a3]
  refine ⟨fun e1 => ⟨fun e2 => ⟨fun e3 => ?_, fun _ => new⟩, fun _ => new⟩, fun _ => new⟩
  have q1 := nI_inj (by omega) (by omega) e1
  have q2 := nI_inj (by omega) (by omega) e2
  have q3 := nI_inj (by omega) (by omega) e3
  subst q1 q2 q3
  exact h w f' hV (FrV.rf k w)
theorem Gm.pos {g : Gm} (hg : g.ok) {l : Nat} (hl : l < g.n) : isPos (g.co l) = true := by
  obtain ⟨b1, b2, b3, b4, b5, b6, b7, b8, b9, b10⟩ := hg.2 l hl
  refine isPos_of (Nat.lt_of_lt_of_le b8 ?_) b9 (by omega)
  exact Nat.le_trans (Nat.pow_le_pow_right (by decide) (show g.top l + 1 ≤ 13 by omega)) (by decide)
theorem wh_valuesOf {w : Wd} {g : Gm} {l : Nat} {Post : Nat → Wd → Prop} (hg : g.ok) (hG : GC w g) (hl : l < g.n) (h : ∀ w' f, VC w' l (g.cn l) (g.sz l) (g.lk l) f → GC w' g → FrC w w' → Post l w') : wp_X0_valuesOf w (nI l) Post := by
  unfold wp_X0_valuesOf
  have hl6 : l < 6 := Nat.lt_of_lt_of_le hl hg.1
  obtain ⟨b1, b2, b3, b4, b5, b6, b7, b8, b9, b10⟩ := hg.2 l hl
  obtain ⟨a1, a2, a3, a4, a5⟩ := hG.2.1 l hl
  have hi : vp_in (nI l) 6 := pk_in l 6 hl6
  refine ⟨hi, hi, hi, hi, ?_⟩
  rw [nI_clamp (by omega)]
  show wp_X3_setFor l w (gA w 36 l) (gA w 37 l) (gA w 55 l) _
  rw [a2, a3, a5]
  refine wh_setFor hl6 hG.2.2.2 b3 b4 b5 b6 b7 (fun w' f hV hF => ?_)
  exact h w' f hV (hG.fr (hF.C hl6) (VCs.one hG.2.2.2 hF hV b3 b4 b5 b6 b7)) (hF.C hl6)
theorem wh_valueWith {w : Wd} {g : Gm} {l m : Nat} {Post : Int32 → Wd → Prop} (hg : g.ok) (hG : GC w g) (hl : l < g.n) (hm : isPos m = true) (hp : pop m ≤ g.cn l) (h : ∀ w', GC w' g → FrC w w' → Post (nI (val (g.lk l) (g.sz l) m)) w') : wp_X0_valueWith w (nI l) (nI m) Post := by
  unfold wp_X0_valueWith
  have hl6 : l < 6 := Nat.lt_of_lt_of_le hl hg.1
  obtain ⟨b1, b2, b3, b4, b5, b6, b7, b8, b9, b10⟩ := hg.2 l hl
  refine wh_valuesOf hg hG hl (fun w1 f hV hG1 hF1 => ?_)
  obtain ⟨m1, m2, m3⟩ := isPos_sp hm
  refine wh_rankOf (by omega) ?_
  obtain ⟨r1, r2⟩ := rank_ok hm
  refine wh_valueAt r1 b6 b7 b4 b5 b3 300 w1 f (by omega) hV hG1.2.2.1 (fun w2 f2 _ hV2 hF2 => ?_)
  have e : vR (g.cn l) (g.sz l) (g.lk l) (rankN m) = val (g.lk l) (g.sz l) m := by
    unfold vR
    rw [r2, if_neg (by omega)]
  rw [e]
  exact h w2 (hG1.fr (hF2.C hl6) (VCs.one hG1.2.2.2 hF2 hV2 b3 b4 b5 b6 b7)) (hF1.tr (hF2.C hl6))

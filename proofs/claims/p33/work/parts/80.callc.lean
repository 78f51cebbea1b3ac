/-! answers: code of what is thrown, number, what is then; the class's calls that change nothing -/
abbrev An : Type := Int32 × Int32 × Sy
def CL (b : Int32 → Wd → Prop) (a : An) : Prop := ∀ w1, CI w1 a.2.2 → (a.1 = 0 → gL w1 25 0 = a.2.1.toInt64) → b a.1 w1
def CN (b : Int32 → Wd → Prop) (a : An) : Prop := ∀ w1, CI w1 a.2.2 → b a.2.1 w1
theorem CI.sL {w : Wd} {S : Sy} (h : CI w S) (x : Int64) : CI (sL w 25 0 x) S := by
  obtain ⟨hG, hR, ⟨nx, n1, n2, n3, n4⟩, hT, hB⟩ := h
  exact ⟨hG.of (fun _ => rfl) (fun _ _ _ _ => rfl) (fun _ _ _ _ => rfl), hR.of (fun _ _ _ _ => rfl) (fun _ => rfl), ⟨nx, n1, n2, n3, fun i hi => ⟨(n4 i hi).1.of (fun _ _ _ _ => rfl), (n4 i hi).2.of (fun _ _ _ _ => rfl) (fun _ => rfl)⟩⟩, fun k hk => ⟨(hT k hk).1, fun hs => ⟨((hT k hk).2 hs).1.of (fun _ _ _ _ => rfl), ((hT k hk).2 hs).2.of (fun _ _ _ _ => rfl) (fun _ => rfl)⟩⟩, hB⟩
theorem CL.ok {b : Int32 → Wd → Prop} {v : Int32} {S : Sy} {w : Wd} (h : CL b (0, v, S)) (hC : CI w S) : ∀ y : Int64, y = v.toInt64 → b 0 (sL w 25 0 y) := fun y e => by
  subst e
  exact h _ (hC.sL _) (fun _ => by rw [gL_sL, if_pos ⟨rfl, rfl⟩])
theorem CL.bad {b : Int32 → Wd → Prop} {k v : Int32} {S : Sy} {w : Wd} (h : CL b (k, v, S)) (hk : ¬ k = 0) (hC : CI w S) : b k w := h w hC (fun q => absurd q hk)
theorem wh_checkWhat {w : Wd} {x : Int32} {n : Nat} {Post : Wd → Prop} {Ex : Nat → Wd → Prop} (_hn : n < 100) (h0 : (x < 0 ∨ nI n < x) → Ex 0 w) (h1 : ¬ (x < 0 ∨ nI n < x) → Post w) : wp_X8_checkWhat w x (nI n) Post Ex := by
  unfold wp_X8_checkWhat
  refine ⟨fun c => h0 (Or.inl c), fun c => ⟨fun c2 => h1 (fun q => q.elim c (fun q => ?_)), fun c2 => h0 (Or.inr (fa_of_nle c2))⟩⟩
  rw [fa_le] at c2
  rw [fa_lt] at q
  omega
theorem wh_checkLadder {w : Wd} {g : Gm} {x : Int32} {Post : Wd → Prop} {Ex : Nat → Wd → Prop} (hg : g.ok) (hG : GC w g) (h0 : (x < 0 ∨ nI g.n ≤ x) → Ex 1 w) (h1 : ∀ l, l < g.n → x = nI l → ¬ (x < 0 ∨ nI g.n ≤ x) → Post w) : wp_X8_checkLadder w x Post Ex := by
  unfold wp_X8_checkLadder
  refine wh_hasLadder (k := 1) hG.1 hg.1 (fun c => ⟨fun _ => h0 c, fun q => absurd rfl q⟩) (fun c => ⟨fun q => absurd q (by decide), fun _ => ?_⟩)
  obtain ⟨l, hl, e⟩ := ladX hg.1 c
  exact h1 l hl e c
def sizV (S : Sy) (x : Int32) : Int32 := if x = nI 0 then nI S.g.n else if x = nI 1 then nI S.r.tu else if x = nI 2 then nI S.r.ac else if x = nI 3 then bI (ovB S.g) else if x = nI 4 then (if ovB S.g = true then 1 - nI S.r.tu else -1) else nI S.d
def sizA (S : Sy) (x : Int32) : An := if x < 0 ∨ nI 5 < x then (1, 0, S) else (0, sizV S x, S)
theorem cc_size {w : Wd} {b : Nat} {S : Sy} {x : Int32} {Post : Int32 → Wd → Prop} (hS : S.ok b) (hC : CI w S) (h : CL Post (sizA S x)) : wp_L_size w x Post := by
  have hg : S.g.ok := hS.1.1
  unfold wp_L_size wp_X8_size
  unfold sizA at h
  refine wh_checkWhat (n := 5) (by omega) (fun c => ⟨rfl, ?_⟩) (fun c => ?_)
  · rw [if_pos c] at h
    exact h.bad (by decide) hC
  rw [if_neg c] at h
  have g34 : gI w (27 + 7 * 1) 6 = nI S.g.n := hC.1.1
  have g7 : gI w (53 + 8 * 0) 7 = nI S.r.tu := hC.2.1.2.2.1
  have g8 : gI w (53 + 8 * 0) 8 = nI S.r.ac := hC.2.1.2.2.2.1
  have g3 : gI w 11 3 = nI S.d := by obtain ⟨nx, n1, n2, n3, n4⟩ := hC.2.2.1; exact n2
  rw [g34, g7, g8, g3]
  unfold sizV at h
  refine ⟨fun c0 => ?_, fun c0 => ⟨fun c1 => ?_, fun c1 => ⟨fun c2 => ?_, fun c2 => ⟨fun c3 => ?_, fun c3 => ⟨fun c4 => ?_, fun c4 => ?_⟩⟩⟩⟩⟩
  · rw [if_pos c0] at h
    exact h.ok hC
  · rw [if_neg c0, if_pos c1] at h
    exact h.ok hC
  · rw [if_neg c0, if_neg c1, if_pos c2] at h
    exact h.ok hC
  · rw [if_neg c0, if_neg c1, if_neg c2, if_pos c3] at h
    refine wh_isOver hg hC.1 ?_
    rw [bI_0]
    refine ⟨fun q => ?_, fun q => ?_⟩
    · rw [q] at h
      exact h.ok hC
    · rw [show ovB S.g = true by simpa using q] at h
      exact h.ok hC
  · rw [if_neg c0, if_neg c1, if_neg c2, if_neg c3, if_pos c4] at h
    refine wh_isOver hg hC.1 ?_
    rw [bI_0]
    refine ⟨fun q => ?_, fun q => ?_⟩
    · rw [q] at h
      exact h.ok hC
    · rw [show ovB S.g = true by simpa using q] at h
      rw [g7]
      exact h.ok hC
  · rw [if_neg c0, if_neg c1, if_neg c2, if_neg c3, if_neg c4] at h
    exact h.ok hC
def ladV (S : Sy) (l : Nat) (y : Int32) : Int32 := if y = nI 0 then nI (S.g.top l) else if y = nI 1 then nI (S.g.cn l) else if y = nI 2 then nI (S.g.cn l) - nI (pop (S.g.co l)) else if y = nI 3 then nI (vNow S.g l) else if y = nI 4 then S.r.ow l else nI (S.r.la l)
def ladA (S : Sy) (x y : Int32) : An := if x < 0 ∨ nI S.g.n ≤ x then (1, 0, S) else if y < 0 ∨ nI 5 < y then (2, 0, S) else (0, ladV S x.toNatClampNeg y, S)
theorem cc_ladder {w : Wd} {b : Nat} {S : Sy} {x y : Int32} {Post : Int32 → Wd → Prop} (hS : S.ok b) (hC : CI w S) (h : CL Post (ladA S x y)) : wp_L_ladder w x y Post := by
  have hg : S.g.ok := hS.1.1
  have hn : S.g.n ≤ 6 := hg.1
  unfold wp_L_ladder wp_X8_ladder
  unfold ladA at h
  refine wh_checkLadder hg hC.1 (fun c => Or.inl ⟨rfl, ?_⟩) (fun l hl e c => ?_)
  · rw [if_pos c] at h
    exact h.bad (by decide) hC
  rw [if_neg c] at h
  refine wh_checkWhat (n := 5) (by omega) (fun c2 => Or.inr ⟨rfl, ?_⟩) (fun c2 => ?_)
  · rw [if_pos c2] at h
    exact h.bad (by decide) hC
  rw [if_neg c2] at h
  subst e
  have hl6 : l < 6 := by omega
  obtain ⟨a1, a2, a3, a4, a5⟩ := hC.1.2.1 l hl
  obtain ⟨r1, r2⟩ := hC.2.1.1 l hl
  have hin : vp_in (nI l) 6 := pk_in l 6 hl6
  rw [nI_clamp (by omega)] at h ⊢
  rw [show gA w (27 + 7 * 1 + 1) l = nI (S.g.top l) from a1, show gA w (27 + 7 * 1 + 2) l = nI (S.g.cn l) from a2, show gA w (53 + 8 * 0 + 1) l = nI (S.g.co l) from a4, show gA w (53 + 8 * 0 + 3) l = S.r.ow l from r1, show gA w (53 + 8 * 0 + 4) l = nI (S.r.la l) from r2]
  unfold ladV at h
  refine ⟨fun c0 => ⟨hin, ?_⟩, fun c0 => ⟨fun c1 => ⟨hin, ?_⟩, fun c1 => ⟨fun c2 => ⟨hin, hin, ?_⟩, fun c2 => ⟨fun c3 => ?_, fun c3 => ⟨fun c4 => ⟨hin, ?_⟩, fun c4 => ⟨hin, ?_⟩⟩⟩⟩⟩⟩
  · rw [if_pos c0] at h
    exact h.ok hC
  · rw [if_neg c0, if_pos c1] at h
    exact h.ok hC
  · rw [if_neg c0, if_neg c1, if_pos c2] at h
    exact wh_bitCount (S.g.co13 hg hl) (h.ok hC)
  · rw [if_neg c0, if_neg c1, if_neg c2, if_pos c3] at h
    exact wh_valueNow hg hC.1 hl (fun w' hG hF => h.ok (hC.fr hG hF.W))
  · rw [if_neg c0, if_neg c1, if_neg c2, if_neg c3, if_pos c4] at h
    exact h.ok hC
  · rw [if_neg c0, if_neg c1, if_neg c2, if_neg c3, if_neg c4] at h
    exact h.ok hC
def setV (S : Sy) (l : Nat) (y : Int32) : Int32 := if y = nI 0 then nI (S.g.co l) else if y = nI 1 then nI (S.g.lk l) else nI (S.g.sz l)
def setA (S : Sy) (x y : Int32) : An := if x < 0 ∨ nI S.g.n ≤ x then (1, 0, S) else if y < 0 ∨ nI 2 < y then (2, 0, S) else (0, setV S x.toNatClampNeg y, S)
theorem cc_set {w : Wd} {b : Nat} {S : Sy} {x y : Int32} {Post : Int32 → Wd → Prop} (hS : S.ok b) (hC : CI w S) (h : CL Post (setA S x y)) : wp_L_set w x y Post := by
  have hg : S.g.ok := hS.1.1
  have hn : S.g.n ≤ 6 := hg.1
  unfold wp_L_set wp_X8_set
  unfold setA at h
  refine wh_checkLadder hg hC.1 (fun c => Or.inl ⟨rfl, ?_⟩) (fun l hl e c => ?_)
  · rw [if_pos c] at h
    exact h.bad (by decide) hC
  rw [if_neg c] at h
  refine wh_checkWhat (n := 2) (by omega) (fun c2 => Or.inr ⟨rfl, ?_⟩) (fun c2 => ?_)
  · rw [if_pos c2] at h
    exact h.bad (by decide) hC
  rw [if_neg c2] at h
  subst e
  have hl6 : l < 6 := by omega
  obtain ⟨a1, a2, a3, a4, a5⟩ := hC.1.2.1 l hl
  have hin : vp_in (nI l) 6 := pk_in l 6 hl6
  rw [nI_clamp (by omega)] at h ⊢
  rw [show gA w (53 + 8 * 0 + 1) l = nI (S.g.co l) from a4, show gA w (53 + 8 * 0 + 2) l = nI (S.g.lk l) from a5, show gA w (27 + 7 * 1 + 3) l = nI (S.g.sz l) from a3]
  unfold setV at h
  refine ⟨fun c0 => ⟨hin, ?_⟩, fun c0 => ⟨fun c1 => ⟨hin, ?_⟩, fun c1 => ⟨hin, ?_⟩⟩⟩
  · rw [if_pos c0] at h
    exact h.ok hC
  · rw [if_neg c0, if_pos c1] at h
    exact h.ok hC
  · rw [if_neg c0, if_neg c1] at h
    exact h.ok hC
def plaV (S : Sy) (p q : Nat) : Int32 := if q < 3 then nI (S.r.tk (3 * p + q)) else S.r.ct (3 * p + (q - 3))
def plaA (S : Sy) (x y : Int32) : An := if x < 0 ∨ 1 < x then (1, 0, S) else if y < 0 ∨ nI 5 < y then (2, 0, S) else (0, plaV S x.toNatClampNeg y.toNatClampNeg, S)
theorem wi5 {x : Int32} {n : Nat} (hn : n < 100) (h : ¬ (x < 0 ∨ nI n < x)) : ∃ k, k ≤ n ∧ x = nI k := by
  obtain ⟨j, _, h2, e⟩ := rng (a := 0) (b := n) (by omega) (by omega) (fun q => h (Or.inl q)) (fun q => h (Or.inr q))
  exact ⟨j, h2, e⟩
def actA (S : Sy) (x y : Int32) : An := if y < 0 ∨ nI 4 < y then (1, 0, S) else (0, pastS S.r x y.toNatClampNeg, S)
/-- whether coins can lie so -/
def canL (g : Gm) (l : Nat) (y : Int32) : Bool := decide (¬ y < 0 ∧ y < nI (2 ^ (g.top l + 1)) ∧ y.toNatClampNeg.testBit 0 = false ∧ pop y.toNatClampNeg ≤ g.cn l)
def valA (S : Sy) (x y : Int32) : An := if x < 0 ∨ nI S.g.n ≤ x then (1, 0, S) else if canL S.g x.toNatClampNeg y = true then (0, nI (val (S.g.lk x.toNatClampNeg) (S.g.sz x.toNatClampNeg) y.toNatClampNeg), S) else (2, 0, S)
theorem canL_sp {g : Gm} {l : Nat} {y : Int32} : canL g l y = true ↔ ¬ y < 0 ∧ y < nI (2 ^ (g.top l + 1)) ∧ y.toNatClampNeg.testBit 0 = false ∧ pop y.toNatClampNeg ≤ g.cn l := by
  unfold canL
  exact decide_eq_true_iff
theorem top_pw {g : Gm} (hg : g.ok) {l : Nat} (hl : l < g.n) : 2 ^ (g.top l + 1) ≤ 8192 ∧ 2 ≤ 2 ^ (g.top l + 1) := by
  obtain ⟨b1, b2, _⟩ := hg.2 l hl
  exact ⟨Nat.le_trans (Nat.pow_le_pow_right (by decide) (show g.top l + 1 ≤ 13 by omega)) (by decide), Nat.le_trans (by decide : 2 ≤ 2 ^ 1) (Nat.pow_le_pow_right (by decide) (by omega))⟩
/-- the class's test: no bit but those of heights -/
theorem msk_sp {y : Int32} {k : Nat} (hk : k < 13) : y &&& (nI (2 ^ (k + 1) - 2) ^^^ (-1)) = 0 ↔ ¬ y < 0 ∧ y < nI (2 ^ (k + 1)) ∧ y.toNatClampNeg.testBit 0 = false := by
  have hp : 2 ^ (k + 1) ≤ 2 ^ 13 := Nat.pow_le_pow_right (by decide) (by omega)
  have hp2 : 2 ≤ 2 ^ (k + 1) := Nat.le_trans (by decide : 2 ≤ 2 ^ 1) (Nat.pow_le_pow_right (by decide) (by omega))
  have tb : ∀ i, (2 ^ (k + 1) - 2).testBit i = (decide (i ≠ 0) && decide (i < k + 1)) := fun i => by
    have e : 2 ^ (k + 1) - 2 = 2 * (2 ^ k - 1) := by rw [Nat.pow_succ]; omega
    rw [e]
    cases i with
    | zero =>
      rw [Nat.testBit_zero]
      simp
    | succ i =>
      rw [Nat.testBit_succ, show 2 * (2 ^ k - 1) / 2 = 2 ^ k - 1 by omega, Nat.testBit_two_pow_sub_one]
      simp
  constructor
  · intro h
    have hbit : ∀ i, i < 32 → bt y i = true → i ≠ 0 ∧ i < k + 1 := fun i hi hb => by
      have h2 : bt (y &&& (nI (2 ^ (k + 1) - 2) ^^^ (-1))) i = false := by
        rw [h]
        exact (bt_nI 0 hi).trans (Nat.zero_testBit i)
      rw [b_and, b_xor, b_m1 i hi, bt_nI _ hi, tb, hb] at h2
      by_cases q : i ≠ 0 ∧ i < k + 1
      · exact q
      · by_cases q0 : i = 0
        · rw [q0] at h2
          simp at h2
        · have q1 : ¬ i < k + 1 := fun c => q ⟨q0, c⟩
          simp [q0, q1] at h2
    have hy : y = nI y.toBitVec.toNat := by
      apply b_ext
      intro i hi
      rw [bt_nI _ hi]
      rfl
    have hlt : y.toBitVec.toNat < 2 ^ (k + 1) := by
      refine Nat.lt_pow_two_of_testBit _ (fun i hi => ?_)
      cases hb : y.toBitVec.toNat.testBit i
      · rfl
      · have hi32 : i < 32 := by
          rcases Nat.lt_or_ge i 32 with q | q
          · exact q
          · have : y.toBitVec.toNat.testBit i = false := Nat.testBit_lt_two_pow (Nat.lt_of_lt_of_le y.toBitVec.isLt (Nat.pow_le_pow_right (by decide) q))
            rw [hb] at this
            cases this
        have := hbit i hi32 hb
        omega
    generalize y.toBitVec.toNat = m at hy hlt
    subst hy
    refine ⟨nI_pos (by omega), nI_lt hlt (by omega), ?_⟩
    rw [nI_clamp (by omega)]
    cases hb : m.testBit 0
    · rfl
    · have := (hbit 0 (by omega) ((bt_nI m (by omega)).trans hb)).1
      exact absurd rfl this
  · rintro ⟨h1, h2, h3⟩
    obtain ⟨m, hm, rfl⟩ := nI_of h1
    simp (disch := omega) only [nI_ltI] at h2
    rw [nI_clamp hm] at h3
    apply b_ext
    intro i hi
    rw [b_and, b_xor, b_m1 i hi, bt_nI _ hi, bt_nI _ hi, tb]
    have e0 : bt (0 : Int32) i = false := (bt_nI 0 hi).trans (Nat.zero_testBit i)
    rw [e0]
    by_cases q0 : i = 0
    · rw [q0, h3]
      rfl
    · by_cases q1 : i < k + 1
      · simp [q0, q1]
      · rw [Nat.testBit_lt_two_pow (Nat.lt_of_lt_of_le h2 (Nat.pow_le_pow_right (by decide) (by omega)))]
        rfl
theorem cc_valueOf {w : Wd} {b : Nat} {S : Sy} {x y : Int32} {Post : Int32 → Wd → Prop} (hS : S.ok b) (hC : CI w S) (h : CL Post (valA S x y)) : wp_L_valueOf w x y Post := by
  have hg : S.g.ok := hS.1.1
  have hn : S.g.n ≤ 6 := hg.1
  unfold wp_L_valueOf wp_X8_valueOf
  unfold valA at h
  refine wh_checkLadder hg hC.1 (fun c => Or.inl ⟨rfl, ?_⟩) (fun l hl e c => ?_)
  · rw [if_pos c] at h
    exact h.bad (by decide) hC
  rw [if_neg c] at h
  subst e
  have hl6 : l < 6 := by omega
  obtain ⟨b1, b2, b3, b4, b5, b6, b7, b8, b9, b10⟩ := hg.2 l hl
  have b2 : S.g.top l ≤ 12 := b2
  obtain ⟨a1, a2, a3, a4, a5⟩ := hC.1.2.1 l hl
  have hin : vp_in (nI l) 6 := pk_in l 6 hl6
  rw [nI_clamp (by omega)] at h ⊢
  rw [show gA w (27 + 7 * 1 + 1) l = nI (S.g.top l) from a1]
  obtain ⟨p1, p2⟩ := top_pw hg hl
  have p1 : 2 ^ (S.g.top l + 1) ≤ 8192 := p1
  have p2 : 2 ≤ 2 ^ (S.g.top l + 1) := p2
  refine ⟨hin, fun y1 e1 => ?_⟩
  have hE : 2 ^ (S.g.top l + 1) = 2 * 2 ^ S.g.top l := by rw [Nat.pow_succ, Nat.mul_comm]
  rw [show (2 : Int32) <<< (nI (S.g.top l) &&& 31) = nI (2 * 2 ^ S.g.top l) from pk_shlN (n := 2) (nI (S.g.top l) &&& 31) (S.g.top l) (s_l _ (by omega)) (by omega), ← hE, show nI (2 ^ (S.g.top l + 1)) - 2 = nI (2 ^ (S.g.top l + 1) - 2) from pk_sub (b := 2) p2] at e1
  subst e1
  have hm := msk_sp (y := y) (k := S.g.top l) (by omega)
  refine ⟨fun c1 => ?_, fun c1 => ?_⟩
  · obtain ⟨q1, q2, q3⟩ := hm.mp c1
    obtain ⟨m, hm31, rfl⟩ := nI_of q1
    simp (disch := omega) only [nI_ltI] at q2
    rw [nI_clamp hm31] at q3 h
    refine wh_bitCount (by omega) ⟨hin, ?_⟩
    rw [show gA w (27 + 7 * 1 + 2) l = nI (S.g.cn l) from a2]
    have hpl := pop_le m
    refine ⟨fun c2 => ?_, fun c2 => Or.inr ⟨rfl, ?_⟩⟩
    · simp (disch := omega) only [nI_leI] at c2
      rw [if_pos (canL_sp.mpr ⟨q1, nI_lt q2 (by omega), by rw [nI_clamp hm31]; exact q3, by rw [nI_clamp hm31]; exact c2⟩)] at h
      refine wh_valueWith hg hC.1 hl (isPos_of (by omega) q3 (by omega)) c2 (fun w' hG hF => h.ok (hC.fr hG hF.W))
    · simp (disch := omega) only [nI_leI] at c2
      rw [if_neg (fun q => c2 (by have := (canL_sp.mp q).2.2.2; rw [nI_clamp hm31] at this; exact this))] at h
      exact h.bad (by decide) hC
  · rw [if_neg (fun q => c1 (hm.mpr ⟨(canL_sp.mp q).1, (canL_sp.mp q).2.1, (canL_sp.mp q).2.2.1⟩))] at h
    exact Or.inr ⟨rfl, h.bad (by decide) hC⟩

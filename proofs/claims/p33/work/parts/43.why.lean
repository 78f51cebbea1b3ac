/-! the class: reasons against acts -/
theorem rng {y : Int32} {a b : Nat} (ha : a < 2 ^ 31) (hb : b + 1 < 2 ^ 31) (h1 : ¬ y < nI a) (h2 : ¬ nI b < y) : ∃ j, a ≤ j ∧ j ≤ b ∧ y = nI j := by
  rcases pk_ix y (n := b + 1) hb with h | h | ⟨j, hj, rfl⟩
  · refine absurd ?_ h1
    rw [fa_lt, nI_toInt ha]
    rw [fa_lt] at h
    have h0 : (0 : Int32).toInt = 0 := rfl
    omega
  · refine absurd ?_ h2
    rw [fa_lt, nI_toInt (by omega)]
    rw [fa_le, nI_toInt hb] at h
    omega
  · refine ⟨j, ?_, by omega, rfl⟩
    rcases Nat.lt_or_ge j a with q | q
    · exact absurd (nI_lt q ha) h1
    · exact q
theorem ladX {x : Int32} {n : Nat} (hn : n ≤ 6) (h : ¬ (x < 0 ∨ nI n ≤ x)) : ∃ l, l < n ∧ x = nI l := by
  rcases pk_ix x (n := n) (by omega) with q | q | q
  · exact absurd (Or.inl q) h
  · exact absurd (Or.inr q) h
  · exact q
theorem ladN {l n : Nat} (hn : n ≤ 6) (h : l < n) : ¬ (nI l < 0 ∨ nI n ≤ nI l) := by
  rintro (q | q)
  · exact nI_pos (by omega) q
  · simp (disch := omega) only [nI_leI] at q
    omega
theorem wh_hasLadder {w : Wd} {k n : Nat} {x : Int32} {Post : Int32 → Wd → Prop} (e : gI w (27 + 7 * k) 6 = nI n) (hn : n ≤ 6) (h0 : (x < 0 ∨ nI n ≤ x) → Post 0 w) (h1 : ¬ (x < 0 ∨ nI n ≤ x) → Post 1 w) : wp_X6_hasLadder k w x Post := by
  unfold wp_X6_hasLadder
  rw [e]
  refine ⟨fun c => h0 (Or.inl c), fun c => ⟨fun c2 => h0 (Or.inr c2), fun c2 => ⟨fun c3 => ?_, fun _ => h1 (fun q => q.elim c c2)⟩⟩⟩
  obtain ⟨l, hl, rfl⟩ := ladX hn (fun q => q.elim c c2)
  simp (disch := omega) only [fa_lit, nI_leI] at c3
  omega
def barS (r : Rs) (l : Nat) (x y z : Int32) : Int32 := if r.ow l = 1 - nI r.tu then 8 else if x = r.bn.1 ∧ y = r.bn.2.1 ∧ z = r.bn.2.2 then 9 else 0
def whyS (g : Gm) (r : Rs) (x y z : Int32) : Int32 :=
  if x < 0 ∨ nI g.n ≤ x then 2
  else if y < 1 ∨ nI (g.top x.toNatClampNeg) < y ∨ (g.co x.toNatClampNeg).testBit y.toNatClampNeg = false then 3
  else if z < 1 ∨ 12 < z ∨ (g.sz x.toNatClampNeg).testBit z.toNatClampNeg = false then 4
  else if y < z then 5
  else if (g.lk x.toNatClampNeg).testBit (y.toNatClampNeg - z.toNatClampNeg) = true then 6
  else if (g.co x.toNatClampNeg).testBit (y.toNatClampNeg - z.toNatClampNeg) = true then 7
  else barS r x.toNatClampNeg x y z
theorem wh_isBanned {w : Wd} {r : Rs} {n : Nat} {x y z : Int32} {Post : Int32 → Wd → Prop} (hR : CR w 0 n r) (h : Post (if x = r.bn.1 ∧ y = r.bn.2.1 ∧ z = r.bn.2.2 then 1 else 0) w) : wp_X7_isBanned 0 w x y z Post := by
  obtain ⟨_, _, _, _, b9, b10, b11, _⟩ := hR
  unfold wp_X7_isBanned
  rw [show gI w (53 + 8 * 0) 9 = r.bn.1 from b9, show gI w (53 + 8 * 0) 10 = r.bn.2.1 from b10, show gI w (53 + 8 * 0) 11 = r.bn.2.2 from b11]
  refine ⟨fun c1 => ⟨fun c2 => ⟨fun c3 => ?_, fun c3 => ?_⟩, fun c2 => ?_⟩, fun c1 => ?_⟩
  · rw [if_pos ⟨c1, c2, c3⟩] at h; exact h
  · rw [if_neg (fun q => c3 q.2.2)] at h; exact h
  · rw [if_neg (fun q => c2 q.2.1)] at h; exact h
  · rw [if_neg (fun q => c1 q.1)] at h; exact h
theorem lt31 {x : Nat} (h : x < 8192) : x < 2 ^ 31 := by omega
theorem Gm.co13 {g : Gm} (hg : g.ok) {l : Nat} (hl : l < g.n) : g.co l < 8192 := (isPos_sp (g.pos hg hl)).1
theorem wh_reason {w : Wd} {g : Gm} {r : Rs} {x y z : Int32} {Post : Int32 → Wd → Prop} (hg : g.ok) (hG : GC w g) (hR : CR w 0 g.n r) (h : Post (whyS g r x y z) w) : wp_X0_reasonAgainstStep w x y z Post := by
  unfold wp_X0_reasonAgainstStep
  unfold whyS at h
  refine wh_hasLadder (k := 1) hG.1 hg.1 (fun c => ?_) (fun c => ?_)
  · rw [if_pos c] at h
    exact ⟨fun _ => h, fun q => absurd rfl q⟩
  rw [if_neg c] at h
  obtain ⟨l, hl, rfl⟩ := ladX hg.1 c
  have hl6 : l < 6 := Nat.lt_of_lt_of_le hl hg.1
  obtain ⟨b1, b2, b3, b4, b5, b6, b7, b8, b9, b10⟩ := hg.2 l hl
  obtain ⟨a1, a2, a3, a4, a5⟩ := hG.2.1 l hl
  have hc := g.co13 hg hl
  rw [nI_clamp (show l < 2 ^ 31 by omega)] at h ⊢
  rw [show gA w (53 + 8 * 0 + 1) l = nI (g.co l) from a4, show gA w (27 + 7 * 1 + 1) l = nI (g.top l) from a1]
  have hin : vp_in (nI l) 6 := pk_in l 6 hl6
  refine ⟨fun q => absurd q (by decide), fun _ => ⟨hin, fun y1 e1 => ?_⟩⟩
  subst e1
  refine ⟨fun c1 => ?_, fun c1 => ⟨hin, fun c2 => ?_, fun c2 => ?_⟩⟩
  · rw [if_pos (Or.inl c1)] at h; exact h
  · rw [if_pos (Or.inr (Or.inl c2))] at h; exact h
  obtain ⟨hN, h1, h2, rfl⟩ := rng (a := 1) (by omega) (by omega) c1 c2
  rw [nI_clamp (show hN < 2 ^ 31 by omega)] at h
  refine wh_hasBit (lt31 hc) (by omega) ?_
  rw [bI_0]
  refine ⟨fun c3 => ?_, fun c3 => ?_⟩
  · rw [if_pos (Or.inr (Or.inr c3))] at h; exact h
  rw [if_neg (fun q => q.elim c1 (fun q => q.elim c2 c3))] at h
  refine ⟨fun c4 => ?_, fun c4 => ⟨fun c5 => ?_, fun c5 => ⟨hin, ?_⟩⟩⟩
  · rw [if_pos (Or.inl c4)] at h; exact h
  · rw [if_pos (Or.inr (Or.inl c5))] at h; exact h
  obtain ⟨s, s1, s2, rfl⟩ := rng (a := 1) (b := 12) (by omega) (by omega) c4 c5
  rw [nI_clamp (show s < 2 ^ 31 by omega)] at h
  rw [show gA w (27 + 7 * 1 + 3) l = nI (g.sz l) from a3]
  refine wh_hasBit (lt31 b4) (by omega) ?_
  rw [bI_0]
  refine ⟨fun c6 => ?_, fun c6 => ?_⟩
  · rw [if_pos (Or.inr (Or.inr c6))] at h; exact h
  rw [if_neg (fun q => q.elim c4 (fun q => q.elim c5 c6))] at h
  intro y2 e2
  by_cases hs : s ≤ hN
  · rw [pk_sub hs] at e2
    subst e2
    rw [if_neg (nI_nlt hs (by omega))] at h
    refine ⟨fun _ => ⟨hin, ?_⟩, fun q => absurd (nI_pos' (by omega)) q⟩
    rw [show gA w (53 + 8 * 0 + 2) l = nI (g.lk l) from a5]
    refine wh_hasBit (lt31 b6) (by omega) ?_
    rw [bI_0]
    refine ⟨fun c7 => ?_, fun c7 => ?_⟩
    · rw [if_neg (by rw [c7]; decide)] at h
      refine wh_hasBit (lt31 hc) (by omega) ?_
      rw [bI_0]
      refine ⟨fun c8 => ⟨hin, ?_⟩, fun c8 => ?_⟩
      · rw [if_neg (by rw [c8]; decide)] at h
        unfold barS at h
        rw [show gA w (53 + 8 * 0 + 3) l = r.ow l from (hR.1 l hl).1, show gI w (53 + 8 * 0) 7 = nI r.tu from hR.2.2.1]
        refine ⟨fun c9 => ?_, fun c9 => ?_⟩
        · rw [if_pos c9] at h; exact h
        · rw [if_neg c9] at h
          refine wh_isBanned hR ?_
          by_cases cb : nI l = r.bn.1 ∧ nI hN = r.bn.2.1 ∧ nI s = r.bn.2.2
          · rw [if_pos cb] at h ⊢
            exact ⟨fun q => absurd q (by decide), fun _ => h⟩
          · rw [if_neg cb] at h ⊢
            exact ⟨fun _ => h, fun q => absurd rfl q⟩
      · rw [if_pos (by simpa using c8)] at h; exact h
    · rw [if_pos (by simpa using c7)] at h; exact h
  · have e3 := pk_sneg (a := hN) (b := s) (by omega) (by omega)
    rw [← e2] at e3
    rw [if_pos (nI_lt (by omega) (by omega))] at h
    refine ⟨fun q => ?_, fun _ => h⟩
    rw [fa_lt] at e3
    rw [fa_le] at q
    exact absurd e3 (Int.not_lt.mpr q)
/-! counting steps -/
def stN (l z m : Nat) : Nat := fb_sm (fun h => fb_ct (fun s => okS l z m h (1 + s)) 12) 13
theorem fb_sm_ite (q : Nat → Bool) : ∀ n, fb_sm (fun s => if q s = true then 1 else 0) n = fb_ct q n
  | 0 => rfl
  | n + 1 => by rw [fb_sm_succ, fb_ct_succ, fb_sm_ite q n]
theorem fb_swap (q : Nat → Nat → Bool) (a : Nat) : ∀ b, fb_sm (fun h => fb_ct (q h) a) b = fb_sm (fun s => fb_ct (fun h => q h s) b) a
  | 0 => by
    show 0 = fb_sm (fun _ => 0) a
    rw [fb_sm_const, Nat.mul_zero]
  | b + 1 => by
    rw [fb_sm_succ, fb_swap q a b]
    have e : fb_sm (fun s => fb_ct (fun h => q h s) (b + 1)) a = fb_sm (fun s => fb_ct (fun h => q h s) b + (if q b s = true then 1 else 0)) a := rfl
    rw [e, fb_sm_add, fb_sm_ite]
theorem tgs_lt {m l s : Nat} (hm : m < 8192) : tgs m l s < 8192 := lt13 (fun i hi => by rw [tb_tgs, tb_big hm (by omega)]; rfl)
theorem ct_tgs {l z m s : Nat} (hm : m < 8192) : fb_ct (fun h => okS l z m h (1 + s)) 13 = if z.testBit (1 + s) = true then pop (tgs m l (1 + s)) else 0 := by
  by_cases hz : z.testBit (1 + s) = true
  · rw [if_pos hz]
    unfold pop
    rcases Nat.lt_or_ge 13 (1 + s) with q | q
    · have e1 : fb_ct (fun h => okS l z m h (1 + s)) 13 = 0 := fb_ct_zero.mpr (fun k hk => by
        unfold okS
        rw [decide_eq_false (show ¬ 1 + s ≤ k by omega)]
        simp)
      have e2 : fb_ct (fun i => (tgs m l (1 + s)).testBit i) 13 = 0 := fb_ct_zero.mpr (fun k hk => by
        show (tgs m l (1 + s)).testBit k = false
        rw [tb_tgs, tb_big hm (by omega)]
        rfl)
      rw [e1, e2]
    · obtain ⟨d, hd⟩ : ∃ d, 13 = 1 + s + d := ⟨13 - (1 + s), by omega⟩
      have e1 : fb_ct (fun h => okS l z m h (1 + s)) 13 = fb_ct (fun k => okS l z m (1 + s + k) (1 + s)) d := by
        rw [hd, fb_ct_split]
        have : fb_ct (fun h => okS l z m h (1 + s)) (1 + s) = 0 := fb_ct_zero.mpr (fun k hk => by
          unfold okS
          rw [decide_eq_false (show ¬ 1 + s ≤ k by omega)]
          simp)
        omega
      have e2 : fb_ct (fun i => (tgs m l (1 + s)).testBit i) 13 = fb_ct (fun i => (tgs m l (1 + s)).testBit i) d := by
        rw [show (13 : Nat) = d + (1 + s) by omega, fb_ct_split]
        have : fb_ct (fun k => (tgs m l (1 + s)).testBit (d + k)) (1 + s) = 0 := fb_ct_zero.mpr (fun k hk => by
          show (tgs m l (1 + s)).testBit (d + k) = false
          rw [tb_tgs, tb_big hm (by omega)]
          rfl)
        omega
      rw [e1, e2]
      refine fb_ct_cong (fun k hk => ?_)
      show okS l z m (1 + s + k) (1 + s) = (tgs m l (1 + s)).testBit k
      unfold okS
      rw [tb_tgs, hz, show 1 + s + k - (1 + s) = k by omega, decide_eq_true (show 1 + s ≤ 1 + s + k by omega)]
      cases m.testBit (1 + s + k) <;> cases m.testBit k <;> cases l.testBit k <;> rfl
  · rw [if_neg hz]
    refine fb_ct_zero.mpr (fun k hk => ?_)
    unfold okS
    simp only [Bool.not_eq_true] at hz
    rw [hz]
    simp
def csF (l z m s : Nat) : Nat := if z.testBit (1 + s) = true then pop (tgs m l (1 + s)) else 0
theorem stN_cs {l z m : Nat} (hm : m < 8192) : stN l z m = fb_sm (csF l z m) 12 := by
  unfold stN
  rw [fb_swap]
  exact fb_sm_cong (fun k _ => ct_tgs hm)
def stG (g : Gm) (l : Nat) : Nat := stN (g.lk l) (g.sz l) (g.co l)
theorem wh_countSteps {w : Wd} {g : Gm} {l : Nat} {Post : Int32 → Wd → Prop} (hg : g.ok) (hG : GC w g) (hl : l < g.n) (h : Post (nI (stG g l)) w) : wp_X0_countSteps w (nI l) Post := by
  have hl6 : l < 6 := Nat.lt_of_lt_of_le hl hg.1
  obtain ⟨b1, b2, b3, b4, b5, b6, b7, b8, b9, b10⟩ := hg.2 l hl
  obtain ⟨a1, a2, a3, a4, a5⟩ := hG.2.1 l hl
  have hc := g.co13 hg hl
  unfold wp_X0_countSteps
  intro J hJ
  have key : ∀ k s, s + k = 12 → J (nI (fb_sm (csF (g.lk l) (g.sz l) (g.co l)) s)) (nI (1 + s)) w := by
    intro k
    induction k with
    | zero =>
      intro s hs
      obtain rfl : s = 12 := by omega
      refine hJ _ _ _ ⟨fun _ => ?_, fun q => absurd (by decide) q⟩
      rw [← stN_cs hc]
      exact h
    | succ k ih =>
      intro s hs
      refine hJ _ _ _ ⟨fun c => ?_, fun _ => ⟨pk_in l 6 hl6, ?_⟩⟩
      · simp (disch := omega) only [fa_lit, nI_ltI] at c
        omega
      rw [nI_clamp (show l < 2 ^ 31 by omega), show gA w (27 + 7 * 1 + 3) l = nI (g.sz l) from a3]
      refine wh_hasBit (lt31 b4) (by omega) ?_
      rw [bI_0]
      have ihs := ih (s + 1) (by omega)
      rw [fb_sm_succ, show 1 + (s + 1) = 1 + s + 1 by omega] at ihs
      refine ⟨fun hb y e => ?_, fun hb => ⟨pk_in l 6 hl6, pk_in l 6 hl6, ?_⟩⟩
      · subst e
        rw [nI_1]
        rw [show csF (g.lk l) (g.sz l) (g.co l) s = 0 from if_neg (by rw [hb]; decide), Nat.add_zero] at ihs
        exact ihs
      · rw [show gA w (53 + 8 * 0 + 1) l = nI (g.co l) from a4, show gA w (53 + 8 * 0 + 2) l = nI (g.lk l) from a5]
        refine wh_targets (lt31 hc) (by omega) ?_
        refine wh_bitCount (tgs_lt hc) ?_
        intro y2 e2 y3 e3
        subst e2 e3
        rw [nI_1, nI_add]
        rw [show csF (g.lk l) (g.sz l) (g.co l) s = pop (tgs (g.co l) (g.lk l) (1 + s)) from if_pos (by simpa using hb)] at ihs
        exact ihs
  exact key 12 0 (by omega)
theorem stG_lt (g : Gm) (l : Nat) : stG g l < 2 ^ 31 := by
  have : stG g l ≤ 13 * 12 := fb_sm_bound (fun k _ => fb_ct_le _ 12)
  omega
def ovB (g : Gm) : Bool := decide (∀ l, l < g.n → stG g l = 0)
theorem wh_isOver {w : Wd} {g : Gm} {Post : Int32 → Wd → Prop} (hg : g.ok) (hG : GC w g) (h : Post (bI (ovB g)) w) : wp_X0_isOver w Post := by
  unfold wp_X0_isOver
  intro J hJ
  have hn := hg.1
  have key : ∀ k l, l + k = g.n → (∀ j, j < l → stG g j = 0) → J (nI l) w := by
    intro k
    induction k with
    | zero =>
      intro l hl hz
      obtain rfl : l = g.n := by omega
      refine hJ _ _ ⟨fun _ => ?_, fun c => ?_⟩
      · rw [show ovB g = true from decide_eq_true hz] at h
        exact h
      · rw [show gI w (27 + 7 * 1) 6 = nI g.n from hG.1] at c
        simp (disch := omega) only [nI_leI] at c
        omega
    | succ k ih =>
      intro l hl hz
      have hln : l < g.n := by omega
      have hlt := stG_lt g l
      refine hJ _ _ ⟨fun c => ?_, fun _ => ?_⟩
      · rw [show gI w (27 + 7 * 1) 6 = nI g.n from hG.1] at c
        simp (disch := omega) only [nI_leI] at c
        omega
      · refine wh_countSteps hg hG hln ⟨fun c y e => ?_, fun c => ?_⟩
        · simp (disch := omega) only [fa_lit, nI_leI] at c
          subst e
          rw [nI_1]
          refine ih (l + 1) (by omega) (fun j hj => ?_)
          rcases Nat.lt_or_ge j l with q | q
          · exact hz j q
          · obtain rfl : j = l := by omega
            omega
        · simp (disch := omega) only [fa_lit, nI_leI] at c
          rw [show ovB g = false from decide_eq_false (fun q => c (by rw [q l hln]; exact Nat.le_refl _))] at h
          exact h
  exact key g.n 0 (by omega) (fun j hj => absurd hj (Nat.not_lt_zero j))
theorem le0 {t : Nat} (h : t < 2 ^ 31) : nI t ≤ 0 ↔ t = 0 := by
  simp (disch := omega) only [fa_lit, nI_leI]
  omega
def whyC (g : Gm) (r : Rs) (x : Int32) : Int32 := if ovB g = true then 1 else if x < 0 ∨ nI g.n ≤ x then 2 else if r.ow x.toNatClampNeg = -1 then (if r.tk (3 * r.tu) = 0 then 4 else 0) else 3
def whyL (g : Gm) (r : Rs) (x y : Int32) : Int32 := if ovB g = true then 1 else if x < 0 ∨ nI g.n ≤ x then 2 else if y < 1 ∨ nI (g.top x.toNatClampNeg) < y then 3 else if (g.lk x.toNatClampNeg).testBit y.toNatClampNeg = true then 4 else if (g.co x.toNatClampNeg).testBit y.toNatClampNeg = true then 5 else if r.tk (3 * r.tu + 1) = 0 then 6 else 0
def pastS (r : Rs) (x : Int32) (q : Nat) : Int32 := if x < 0 ∨ nI (min r.ac 16) ≤ x then -1 else r.lg (rowN (r.ac - 1 - x.toNatClampNeg) + q)
theorem min16 {a : Nat} (h : a < 2 ^ 30) : (if 16 < nI a then 16 else nI a) = nI (min a 16) := by
  by_cases q : 16 < a
  · rw [if_pos (by simp (disch := omega) only [fa_lit, nI_ltI]; exact q), Nat.min_eq_right (by omega)]
    rfl
  · rw [if_neg (by simp (disch := omega) only [fa_lit, nI_ltI]; exact q), Nat.min_eq_left (by omega)]
theorem row_ix {a q : Nat} (h : a < 2 ^ 30) : (nI a - nI a / 16 * 16) * 5 + nI q = nI (rowN a + q) := by
  have e := pk_rem (a := a) (d := 16) (by omega) (by omega) (by omega)
  rw [fa_lit, fa_lit, e, pk_mul, nI_add]
  rfl
theorem rowN_lt (a : Nat) : rowN a + 4 < 80 := by unfold rowN; omega
theorem rowN_ok {a k : Nat} {c : Nat} (h : a < c) (hk : k < 5) : (rowN a + k) / 5 < c := by
  unfold rowN
  have := Nat.mod_le a 16
  omega
def whyB (r : Rs) : Int32 := if pastS r 0 0 = 0 then (if r.tk (3 * r.tu + 2) = 0 then 2 else 0) else 1

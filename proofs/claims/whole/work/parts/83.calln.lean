/-! the model's calls with a number of a thing -/
theorem wo5 {x : Int32} {n k : Nat} (hn : n < 100) (hk : k ≤ n) (h : x < 0 ∨ nI n < x) : ¬ x = nI k := by
  intro e
  subst e
  rcases h with c | c
  · exact nI_pos (by omega) c
  · simp (disch := omega) only [nI_ltI] at c
    omega
theorem mm_size {w : Wd} {b : Nat} {S : Sy} {x : Int32} {Post : Int32 → Wd → Prop} (hS : S.ok b) (hI : TI w S) (h : ML Post (sizA S x)) : wp_X9_size w x Post := by
  have hg := hS.hg
  have hI1 := hI.th hS 0
  have t0 := th_g w 0
  unfold sizA at h
  have hin : ∀ k, k ≤ 5 → x = nI k → ML Post (0, sizV S x, S) := fun k hk e => by
    rw [if_neg (fun c => wo5 (n := 5) (by omega) hk c e)] at h
    exact h
  unfold wp_X9_size
  have g55 : gA (sI w 15 0 0) 18 55 = nI S.r.tu := hI1.1.z.2.2.1
  rw [g55, show gA (sI w 15 0 0) 18 56 = nI S.r.ac from hI1.1.z.2.2.2.1, show gI (sI w 15 0 0) 15 15 = nI S.d from hI1.2.1.1]
  refine ⟨fun c0 => ?_, fun c0 => ⟨fun c1 => ?_, fun c1 => ⟨fun c2 => ?_, fun c2 => ⟨fun c3 => ?_, fun c3 => ⟨fun c4 => ?_, fun c4 => ⟨fun c5 => ?_, fun c5 => ?_⟩⟩⟩⟩⟩⟩
  · have q := hin 0 (by omega) c0
    unfold sizV at q
    rw [if_pos c0] at q
    unfold wp_X9_ladders
    rw [hI1.1.lg.1]
    exact q.ok hI1 t0
  · have q := hin 1 (by omega) c1
    unfold sizV at q
    rw [if_neg c0, if_pos c1] at q
    exact q.ok hI1 t0
  · have q := hin 2 (by omega) c2
    unfold sizV at q
    rw [if_neg c0, if_neg c1, if_pos c2] at q
    exact q.ok hI1 t0
  · have q := hin 3 (by omega) c3
    unfold sizV at q
    rw [if_neg c0, if_neg c1, if_neg c2, if_pos c3] at q
    refine wm_isOver hg hI1.1.lg ?_
    rw [bI_0]
    refine ⟨fun c => ?_, fun c => ?_⟩
    · rw [c] at q
      exact q.ok hI1 t0
    · rw [show ovB S.g = true by simpa using c] at q
      exact q.ok hI1 t0
  · have q := hin 4 (by omega) c4
    unfold sizV at q
    rw [if_neg c0, if_neg c1, if_neg c2, if_neg c3, if_pos c4] at q
    refine wm_isOver hg hI1.1.lg ?_
    rw [bI_0]
    refine ⟨fun c => ?_, fun c => ?_⟩
    · rw [c] at q
      exact q.ok hI1 t0
    · rw [show ovB S.g = true by simpa using c] at q
      rw [g55]
      exact q.ok hI1 t0
  · have q := hin 5 (by omega) c5
    unfold sizV at q
    rw [if_neg c0, if_neg c1, if_neg c2, if_neg c3, if_neg c4] at q
    exact q.ok hI1 t0
  · by_cases c : x < 0 ∨ nI 5 < x
    · rw [if_pos c] at h
      exact h.bad hS hI1 (by decide)
    · obtain ⟨k, hk, e⟩ := wi5 (n := 5) (by omega) c
      rcases (show k = 0 ∨ k = 1 ∨ k = 2 ∨ k = 3 ∨ k = 4 ∨ k = 5 by omega) with rfl | rfl | rfl | rfl | rfl | rfl
      · exact absurd e c0
      · exact absurd e c1
      · exact absurd e c2
      · exact absurd e c3
      · exact absurd e c4
      · exact absurd e c5
theorem mm_ladder {w : Wd} {b : Nat} {S : Sy} {x y : Int32} {Post : Int32 → Wd → Prop} (hS : S.ok b) (hI : TI w S) (h : ML Post (ladA S x y)) : wp_X9_ladder w x y Post := by
  have hg := hS.hg
  have hI1 := hI.th hS 0
  have t0 := th_g w 0
  unfold wp_X9_ladder
  unfold ladA at h
  refine wm_isLadder hg hI.1.lg (fun c => ⟨fun _ => br_le (by decide) ?_, fun q => absurd rfl q⟩) (fun c => ⟨fun q => absurd q (by decide), fun _ => ?_⟩)
  · rw [if_pos c] at h
    exact h.bad hS hI (by decide)
  rw [if_neg c] at h
  refine wm_within (fun c2 => ⟨fun _ => br_le (by decide) ?_, fun q => absurd rfl q⟩) (fun c2 => ⟨fun q => absurd q (by decide), fun _ => br_le0 ?_⟩)
  · have c2 : y < 0 ∨ nI 5 < y := c2
    rw [if_pos c2] at h
    exact h.bad hS hI (by decide)
  have c2 : ¬ (y < 0 ∨ nI 5 < y) := c2
  rw [if_neg c2] at h
  obtain ⟨l, hl, rfl⟩ := ladX hg.1 c
  have hl6 : l < 6 := Nat.lt_of_lt_of_le hl hg.1
  rw [nI_clamp (by omega)] at h
  obtain ⟨a1, a2, a3, a4, a5⟩ := hI1.1.lg.2 l hl
  obtain ⟨a6, a7⟩ := hI1.1.z.1 l hl
  unfold ladV at h
  refine ⟨fun c0 => wm_of (k := 0) hl6 (by omega) ?_, fun c0 => ⟨fun c1 => wm_of (k := 1) hl6 (by omega) ?_, fun c1 => ⟨fun c2 => wm_of (k := 1) hl6 (by omega) (wm_of (k := 2) hl6 (by omega) ?_), fun c2 => ⟨fun c3 => ?_, fun c3 => ⟨fun c4 => wm_of (k := 5) hl6 (by omega) ?_, fun c4 => wm_of (k := 6) hl6 (by omega) ?_⟩⟩⟩⟩⟩
  · rw [if_pos c0] at h
    rw [a1]
    exact h.ok hI1 t0
  · rw [if_neg c0, if_pos c1] at h
    rw [a2]
    exact h.ok hI1 t0
  · rw [if_neg c0, if_neg c1, if_pos c2] at h
    rw [a3, a2]
    exact wh_bits (S.g.co13 hg hl) (h.ok hI1 t0)
  · rw [if_neg c0, if_neg c1, if_neg c2, if_pos c3] at h
    exact wm_worthOf hg hI1.1.lg hl (fun w' hF _ => h.ok (hI1.frT hS hF.M.T) hF.M.t0)
  · rw [if_neg c0, if_neg c1, if_neg c2, if_neg c3, if_pos c4] at h
    rw [a6]
    exact h.ok hI1 t0
  · rw [if_neg c0, if_neg c1, if_neg c2, if_neg c3, if_neg c4] at h
    rw [a7]
    exact h.ok hI1 t0
theorem mm_set {w : Wd} {b : Nat} {S : Sy} {x y : Int32} {Post : Int32 → Wd → Prop} (hS : S.ok b) (hI : TI w S) (h : ML Post (setA S x y)) : wp_X9_set w x y Post := by
  have hg := hS.hg
  have hI1 := hI.th hS 0
  have t0 := th_g w 0
  unfold wp_X9_set
  unfold setA at h
  refine wm_isLadder hg hI.1.lg (fun c => ⟨fun _ => br_eq (by decide) ?_, fun q => absurd rfl q⟩) (fun c => ⟨fun q => absurd q (by decide), fun _ => ?_⟩)
  · rw [if_pos c] at h
    exact h.bad hS hI (by decide)
  rw [if_neg c] at h
  refine wm_within (fun c2 => ⟨fun _ => br_eq (by decide) ?_, fun q => absurd rfl q⟩) (fun c2 => ⟨fun q => absurd q (by decide), fun _ => br_eq0 ?_⟩)
  · have c2 : y < 0 ∨ nI 2 < y := c2
    rw [if_pos c2] at h
    exact h.bad hS hI (by decide)
  have c2 : ¬ (y < 0 ∨ nI 2 < y) := c2
  rw [if_neg c2] at h
  obtain ⟨l, hl, rfl⟩ := ladX hg.1 c
  have hl6 : l < 6 := Nat.lt_of_lt_of_le hl hg.1
  rw [nI_clamp (by omega)] at h
  obtain ⟨a1, a2, a3, a4, a5⟩ := hI1.1.lg.2 l hl
  obtain ⟨q, hq, rfl⟩ := wi5 (n := 2) (by omega) c2
  unfold setV at h
  rw [show 2 + nI q = nI (2 + q) from nI_add 2 q]
  refine wm_of (k := 2 + q) hl6 (by omega) ?_
  rcases (show q = 0 ∨ q = 1 ∨ q = 2 by omega) with rfl | rfl | rfl
  · rw [if_pos rfl] at h
    rw [a3]
    exact h.ok hI1 t0
  · rw [if_neg (by decide), if_pos rfl] at h
    rw [a4]
    exact h.ok hI1 t0
  · rw [if_neg (by decide), if_neg (by decide)] at h
    rw [a5]
    exact h.ok hI1 t0
theorem mm_player {w : Wd} {b : Nat} {S : Sy} {x y : Int32} {Post : Int32 → Wd → Prop} (hS : S.ok b) (hI : TI w S) (h : ML Post (plaA S x y)) : wp_X9_player w x y Post := by
  have hI1 := hI.th hS 0
  have t0 := th_g w 0
  unfold wp_X9_player
  unfold plaA at h
  refine wm_within (fun c => ⟨fun _ => br_eq (by decide) ?_, fun q => absurd rfl q⟩) (fun c => ⟨fun q => absurd q (by decide), fun _ => ?_⟩)
  · rw [if_pos c] at h
    exact h.bad hS hI (by decide)
  rw [if_neg c] at h
  refine wm_within (fun c2 => ⟨fun _ => br_eq (by decide) ?_, fun q => absurd rfl q⟩) (fun c2 => ⟨fun q => absurd q (by decide), fun _ => br_eq0 ?_⟩)
  · have c2 : y < 0 ∨ nI 5 < y := c2
    rw [if_pos c2] at h
    exact h.bad hS hI (by decide)
  have c2 : ¬ (y < 0 ∨ nI 5 < y) := c2
  rw [if_neg c2] at h
  obtain ⟨p, hp, rfl⟩ := wi2 c
  obtain ⟨q, hq, rfl⟩ := wi5 (n := 5) (by omega) c2
  rw [nI_clamp (by omega), nI_clamp (by omega)] at h
  rw [tok0 p, nI_add, nI_clamp (by omega)]
  refine ⟨pk_in (43 + 6 * p + q) 140 (by omega), ?_⟩
  unfold plaV at h
  have hz := hI1.1.z.2.1 p hp
  by_cases c3 : q < 3
  · rw [if_pos c3] at h
    rw [(hz q c3).1]
    exact h.ok hI1 t0
  · rw [if_neg c3] at h
    have hz := (hz (q - 3) (by omega)).2
    rw [show 43 + 6 * p + (3 + (q - 3)) = 43 + 6 * p + q by omega] at hz
    rw [hz]
    exact h.ok hI1 t0
theorem sub1 {m : Nat} {x : Int32} (hm : m < 2 ^ 30) : nI m - 1 < x ↔ nI m ≤ x := by
  have e : (nI m - 1).toInt = (m : Int) - 1 := pk_sub_toInt (a := m) (b := 1) (by omega) (by omega)
  rw [fa_lt, fa_le, e, nI_toInt (by omega)]
  omega
theorem mm_past {w : Wd} {b q m : Nat} {S : Sy} {x : Int32} {Post : Int32 → Wd → Prop} (hS : S.ok b) (hb : b < 2 ^ 30) (hI : TI w S) (hq : q < 5) (hm : m = min S.r.ac 16) (h : Post (pastS S.r x q) w) : wp_X9_within w x 0 (nI m - 1) (fun r2 w2 => (r2 = 0 → (Post ((-1)) w2)) ∧ (¬ r2 = 0 → (vp_in ((60 + (5 * ((((gA w2 18 56) - 1) - x) - (((gA w2 18 56) - 1) - x) / 16 * 16))) + nI q) 140 ∧ (Post (gA w2 18 (((60 + (5 * ((((gA w2 18 56) - 1) - x) - (((gA w2 18 56) - 1) - x) / 16 * 16))) + nI q).toNatClampNeg)) w2)))) := by
  have hr := hS.hr
  have ha := hr.2.2.2
  obtain ⟨t1, t2, t3, t4, t5, t6, t7⟩ := hI.1.z
  unfold pastS at h
  subst hm
  refine wm_within (fun c => ⟨fun _ => ?_, fun q => absurd rfl q⟩) (fun c => ⟨fun q => absurd q (by decide), fun _ => ?_⟩)
  · rw [sub1 (by omega)] at c
    rw [if_pos c] at h
    exact h
  · rw [sub1 (by omega)] at c
    rw [if_neg c] at h
    obtain ⟨j, hj, rfl⟩ : ∃ j, j < min S.r.ac 16 ∧ x = nI j := by
      rcases pk_ix x (n := min S.r.ac 16) (by omega) with q | q | q
      · exact absurd (Or.inl q) c
      · exact absurd (Or.inr q) c
      · exact q
    rw [nI_clamp (by omega)] at h
    have e1 : nI S.r.ac - 1 - nI j = nI (S.r.ac - 1 - j) := by
      rw [show nI S.r.ac - 1 = nI (S.r.ac - 1) from pk_sub (b := 1) (by omega), pk_sub (by omega)]
    have hrow := rowN_lt (S.r.ac - 1 - j)
    rw [t4, e1, log_ix (by omega), nI_clamp (by omega), t7 _ (by omega) (rowN_ok (by omega) hq)]
    exact ⟨pk_in (60 + (rowN (S.r.ac - 1 - j) + q)) 140 (by omega), h⟩
theorem mm_act {w : Wd} {b : Nat} {S : Sy} {x y : Int32} {Post : Int32 → Wd → Prop} (hS : S.ok b) (hb : b < 2 ^ 30) (hI : TI w S) (h : ML Post (actA S x y)) : wp_X9_act w x y Post := by
  have hI1 := hI.th hS 0
  have t0 := th_g w 0
  have ha := hS.hr.2.2.2
  unfold wp_X9_act
  unfold actA at h
  refine wm_within (fun c2 => ⟨fun _ => br_le (by decide) ?_, fun q => absurd rfl q⟩) (fun c2 => ⟨fun q => absurd q (by decide), fun _ => br_le0 ?_⟩)
  · have c2 : y < 0 ∨ nI 4 < y := c2
    rw [if_pos c2] at h
    exact h.bad hS hI (by decide)
  have c2 : ¬ (y < 0 ∨ nI 4 < y) := c2
  rw [if_neg c2] at h
  obtain ⟨q, hq, rfl⟩ := wi5 (n := 4) (by omega) c2
  rw [nI_clamp (by omega)] at h
  rw [show gA (sI w 15 0 0) 18 56 = nI S.r.ac from hI1.1.z.2.2.2.1]
  refine ⟨fun c => ?_, fun c y1 e1 => ?_⟩
  · have c : nI 16 ≤ nI S.r.ac := c
    simp (disch := omega) only [nI_leI] at c
    exact mm_past (m := 16) hS hb hI1 (by omega) (by omega) (h.ok hI1 t0)
  · have c : ¬ nI 16 ≤ nI S.r.ac := c
    simp (disch := omega) only [nI_leI] at c
    subst e1
    exact mm_past (m := S.r.ac) hS hb hI1 (by omega) (by omega) (h.ok hI1 t0)
theorem shl2 {k : Nat} (hk : k < 29) : (2 : Int32) <<< (nI k &&& 31) = nI (2 ^ (k + 1)) := by
  have hp : 2 ^ (k + 1) < 2 ^ 30 := Nat.pow_lt_pow_right (by decide) (by omega)
  have hE : 2 ^ (k + 1) = 2 * 2 ^ k := by rw [Nat.pow_succ, Nat.mul_comm]
  rw [hE]
  exact pk_shlN (n := 2) (nI k &&& 31) k (s_l _ (by omega)) (by omega)
theorem mm_valueOf {w : Wd} {b : Nat} {S : Sy} {x y : Int32} {Post : Int32 → Wd → Prop} (hS : S.ok b) (hI : TI w S) (h : ML Post (valA S x y)) : wp_X9_valueOf w x y Post := by
  have hg := hS.hg
  have hI1 := hI.th hS 0
  have t0 := th_g w 0
  unfold wp_X9_valueOf
  unfold valA at h
  refine wm_isLadder hg hI.1.lg (fun c => ⟨fun _ => br_le (by decide) ?_, fun q => absurd rfl q⟩) (fun c => ⟨fun q => absurd q (by decide), fun _ => br_le0 ?_⟩)
  · rw [if_pos c] at h
    exact h.bad hS hI (by decide)
  rw [if_neg c] at h
  obtain ⟨l, hl, rfl⟩ := ladX hg.1 c
  have hl6 : l < 6 := Nat.lt_of_lt_of_le hl hg.1
  rw [nI_clamp (by omega)] at h
  obtain ⟨a1, a2, a3, a4, a5⟩ := hI1.1.lg.2 l hl
  obtain ⟨b1, b2, b3, b4, b5, _⟩ := hg.2 l hl
  obtain ⟨p1, p2⟩ := top_pw hg hl
  have bad : canL S.g l y = false → wp_X9_fail (sI w 15 0 0) 2 (fun r w => Post r w) := fun e => by
    rw [if_neg (by rw [e]; decide)] at h
    exact h.bad hS hI1 (by decide)
  have no : ¬ (¬ y < 0 ∧ y < nI (2 ^ (S.g.top l + 1)) ∧ y.toNatClampNeg.testBit 0 = false ∧ pop y.toNatClampNeg ≤ S.g.cn l) → canL S.g l y = false := fun q => by
    cases e : canL S.g l y
    · rfl
    · exact absurd (canL_sp.mp e) q
  refine ⟨fun d1 => bad (no (fun q => q.1 d1)), fun d1 => wm_of (k := 0) hl6 (by omega) ?_⟩
  rw [a1, shl2 (by omega)]
  refine ⟨fun d2 => bad (no (fun q => ?_)), fun d2 => ?_⟩
  · have q2 := q.2.1
    rw [fa_lt] at q2
    rw [fa_le] at d2
    omega
  obtain ⟨m, hm, rfl⟩ := nI_of d1
  simp (disch := omega) only [nI_leI] at d2
  have hm2 : m < 8192 := by omega
  rw [nI_clamp hm] at h no
  rw [show nI m - nI m / 2 * 2 = nI (m % 2) from pk_rem (a := m) (d := 2) hm (by omega) (by omega), eq0 (by omega)]
  refine ⟨fun d3 => wh_bits hm2 (wm_of (k := 1) hl6 (by omega) ?_), fun d3 => bad (no (fun q => ?_))⟩
  · have hb0 : m.testBit 0 = false := by
      rw [Nat.testBit_zero]
      simp [d3]
    rw [a2]
    have hpl := pop_le m
    simp (disch := omega) only [nI_ltI]
    refine ⟨fun d4 => bad (no (fun q => ?_)), fun d4 => ?_⟩
    · exact absurd q.2.2.2 (by omega)
    have hc : canL S.g l (nI m) = true := canL_sp.mpr ⟨d1, nI_lt (by omega) (by omega), by rw [nI_clamp hm]; exact hb0, by rw [nI_clamp hm]; omega⟩
    rw [if_pos hc] at h
    refine wm_lays hg hI1.1.lg hl (fun w' hF hL => ?_)
    rw [nI_clamp hm, (hL m (by omega) hb0 (by omega)).1]
    exact ⟨pk_in m 8192 hm2, h.ok (hI1.frT hS hF.M.T) hF.M.t0⟩
  · have q3 := q.2.2.1
    rw [Nat.testBit_zero] at q3
    simp at q3
    omega
theorem mm_choice {w : Wd} {b : Nat} {S : Sy} {x y : Int32} {Post : Int32 → Wd → Prop} (hS : S.ok b) (hI : TI w S) (h : ML Post (choA S x y)) : wp_X9_choice w x y Post := by
  have hg := hS.hg
  have h72 := chs_len hg S.r
  unfold wp_X9_choice
  unfold choA at h
  refine ⟨fun c => br_le (by decide) ?_, fun c => ?_⟩
  · rw [if_pos (Or.inl c)] at h
    exact h.bad hS hI (by decide)
  refine wm_finds hg hI.1 (fun w2 hF hf => ⟨fun c2 => br_le (by decide) ?_, fun c2 => ?_⟩)
  · rw [if_pos (Or.inr c2)] at h
    exact h.bad hS (hI.frT hS hF.T) (by decide)
  have hI2 := hI.frT hS hF.T
  rw [if_neg (fun q => q.elim c c2)] at h
  refine wm_within (fun c3 => ⟨fun _ => br_le (by decide) ?_, fun q => absurd rfl q⟩) (fun c3 => ⟨fun q => absurd q (by decide), fun _ => br_le0 ?_⟩)
  · have c3 : y < 0 ∨ nI 3 < y := c3
    rw [if_pos c3] at h
    exact h.bad hS hI2 (by decide)
  have c3 : ¬ (y < 0 ∨ nI 3 < y) := c3
  rw [if_neg c3] at h
  have hI3 := hI2.th hS 0
  have t0 := th_g w2 0
  obtain ⟨k, hk, rfl⟩ : ∃ k, k < (chs S.g S.r).length ∧ x = nI k := by
    rcases pk_ix x (n := (chs S.g S.r).length) (by omega) with q | q | q
    · exact absurd q c
    · exact absurd q c2
    · exact q
  rw [nI_clamp (by omega)] at h
  have hin : inC S.g S.r ((chs S.g S.r).getD k (0, 0, 0)) := by
    rw [List.getD_eq_getElem?_getD, List.getElem?_eq_getElem hk, Option.getD_some]
    exact chs_in (List.getElem_mem hk)
  have hf := hf k rfl hk
  generalize (chs S.g S.r).getD k (0, 0, 0) = cd at h hf hin
  have hf3 : fdI (sI w2 15 0 0) cd := ⟨by rw [gI_sI, if_neg (by omega)]; exact hf.1, by rw [gI_sI, if_neg (by omega)]; exact hf.2.1, by rw [gI_sI, if_neg (by omega)]; exact hf.2.2⟩
  unfold choV at h
  rw [hf3.1, hf3.2.1, hf3.2.2]
  refine ⟨fun c0 => ?_, fun c0 => ⟨fun c1 => ?_, fun c1 => ⟨fun c2 => ?_, fun c2 => ?_⟩⟩⟩
  · have c0 : y = nI 0 := c0
    rw [if_pos c0] at h
    exact h.ok hI3 t0
  · have c0 : ¬ y = nI 0 := c0
    have c1 : y = nI 1 := c1
    rw [if_neg c0, if_pos c1] at h
    exact h.ok hI3 t0
  · have c0 : ¬ y = nI 0 := c0
    have c1 : ¬ y = nI 1 := c1
    have c2 : y = nI 2 := c2
    rw [if_neg c0, if_neg c1, if_pos c2] at h
    exact h.ok hI3 t0
  · have c0 : ¬ y = nI 0 := c0
    have c1 : ¬ y = nI 1 := c1
    have c2 : ¬ y = nI 2 := c2
    rw [if_neg c0, if_neg c1, if_neg c2] at h
    exact wm_sumBehind hg hI3.1 hin hf3 (fun w' hF' => h.ok (hI3.frT hS hF'.T) hF'.t0)

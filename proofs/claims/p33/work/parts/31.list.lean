/-! the class: the first missing value, and the list of the places behind -/
theorem mex_13 {p : Nat → Bool} (h : ∀ u, u < 13 → p u = true) : mex p = 13 := by
  have h1 : mex p ≤ 13 := fa_first_le _ 13
  rcases Nat.lt_or_ge (mex p) 13 with q | q
  · have h2 := mex_no p q
    rw [h _ q] at h2
    cases h2
  · omega
theorem wh_firstMissing {w : Wd} {q : Nat} {Post : Int32 → Wd → Prop} (hq : q < 2 ^ 31) (h : Post (nI (mex (fun v => q.testBit v))) w) : wp_X3_firstMissing w (nI q) Post := by
  unfold wp_X3_firstMissing
  intro J hJ
  have key : ∀ k v, v + k = 13 → (∀ u, u < v → q.testBit u = true) → J (nI v) w := by
    intro k
    induction k with
    | zero =>
      intro v hv hu
      obtain rfl : v = 13 := by omega
      rw [mex_13 (p := fun v => q.testBit v) hu] at h
      exact hJ _ _ ⟨fun _ => h, fun q => absurd (by decide) q⟩
    | succ k ih =>
      intro v hv hu
      refine hJ _ _ ⟨fun c => ?_, fun c => ?_⟩
      · simp (disch := omega) only [fa_lit, nI_ltI] at c
        omega
      · refine wh_hasBit hq (by omega) ?_
        rw [bI_0]
        refine ⟨fun hb => ?_, fun hb y e => ?_⟩
        · rw [mex_is (p := fun v => q.testBit v) (by omega) hb hu] at h
          exact h
        · subst e
          rw [nI_1]
          refine ih (v + 1) (by omega) (fun u hu2 => ?_)
          rcases Nat.lt_or_ge u v with h1 | h1
          · exact hu u h1
          · obtain rfl : u = v := by omega
            cases hx : q.testBit u
            · exact absurd hx hb
            · rfl
  exact key 13 0 (by omega) (fun u hu => absurd hu (by omega))
/-- the class's order: by size, by target -/
def gB (l z m s t : Nat) : Option Nat := if z.testBit (1 + s) = true ∧ (tgs m l (1 + s)).testBit t = true then some (mv m (t + (1 + s)) t) else none
def pB (l z m s t : Nat) : List Nat := (List.range s).flatMap (fun s => (List.range 12).filterMap (gB l z m s)) ++ (List.range t).filterMap (gB l z m s)
theorem pB_s (l z m s : Nat) : pB l z m (s + 1) 0 = pB l z m s 12 := by
  unfold pB
  rw [List.range_succ (n := s), List.flatMap_append]
  simp
theorem pB_t (l z m s t : Nat) : pB l z m s (t + 1) = pB l z m s t ++ (gB l z m s t).toList := by
  unfold pB
  rw [List.range_succ (n := t), List.filterMap_append, ← List.append_assoc]
  congr 1
theorem pB_none {l z m s t : Nat} (h : ∀ u, t ≤ u → u < 12 → gB l z m s u = none) (ht : t ≤ 12) : pB l z m s 12 = pB l z m s t := by
  suffices g : ∀ k, t + k ≤ 12 → pB l z m s (t + k) = pB l z m s t by
    have := g (12 - t) (by omega)
    rwa [show t + (12 - t) = 12 by omega] at this
  intro k
  induction k with
  | zero => intro _; rfl
  | succ k ih =>
    intro hk
    rw [← Nat.add_assoc, pB_t, h (t + k) (by omega) (by omega), ih (by omega)]
    simp
theorem pB_le_t (l z m s t k : Nat) : (pB l z m s t).length ≤ (pB l z m s (t + k)).length := by
  induction k with
  | zero => exact Nat.le_refl _
  | succ k ih =>
    rw [← Nat.add_assoc, pB_t, List.length_append]
    omega
theorem pB_le_s (l z m s k : Nat) : (pB l z m s 0).length ≤ (pB l z m (s + k) 0).length := by
  induction k with
  | zero => exact Nat.le_refl _
  | succ k ih =>
    have := pB_le_t l z m (s + k) 0 12
    rw [Nat.zero_add] at this
    rw [← Nat.add_assoc, pB_s]
    omega
theorem tb_big {m i : Nat} (hm : m < 8192) (hi : 13 ≤ i) : m.testBit i = false := Nat.testBit_lt_two_pow (Nat.lt_of_lt_of_le hm (Nat.le_trans (by decide : 8192 ≤ 2 ^ 13) (Nat.pow_le_pow_right (by decide) hi)))
theorem pop_from {m : Nat} (hm : m < 8192) (s : Nat) : fb_ct (fun t => m.testBit ((1 + s) + t)) 12 ≤ pop m := by
  have e1 := fb_ct_split (fun i => m.testBit i) (1 + s) 12
  have e2 := fb_ct_split (fun i => m.testBit i) 13 s
  have e3 : fb_ct (fun k => m.testBit (13 + k)) s = 0 := fb_ct_zero.mpr (fun k _ => tb_big hm (by omega))
  rw [show (1 + s) + 12 = 13 + s by omega] at e1
  unfold pop
  omega
theorem pB_le_s' (l z m s k : Nat) : (pB l z m s 0).length ≤ (pB l z m (s + k) 0).length := by
  induction k with
  | zero => exact Nat.le_refl _
  | succ k ih =>
    have := pB_le_t l z m (s + k) 0 12
    rw [Nat.zero_add] at this
    rw [← Nat.add_assoc, pB_s]
    omega
theorem pB_top {l z m : Nat} (hm : m < 8192) : (pB l z m 12 0).length ≤ pop z * pop m := by
  unfold pB
  rw [List.length_append]
  have h1 := len_bm (fun s => (List.range 12).filterMap (gB l z m s)) (fun s => z.testBit (1 + s)) (pop m) (fun s => by
    by_cases hz : z.testBit (1 + s) = true
    · rw [if_pos hz]
      refine Nat.le_trans (len_fm _ (fun t => m.testBit ((1 + s) + t)) (fun t ht => ?_) 12) (pop_from hm s)
      unfold gB at ht
      by_cases hk : z.testBit (1 + s) = true ∧ (tgs m l (1 + s)).testBit t = true
      · have := hk.2
        rw [tb_tgs, Bool.and_eq_true] at this
        exact this.1
      · rw [if_neg hk] at ht
        exact absurd rfl ht
    · rw [if_neg hz]
      refine Nat.le_trans (len_fm _ (fun _ => false) (fun t ht => ?_) 12) (Nat.le_of_eq (fb_ct_zero.mpr (fun _ _ => rfl)))
      unfold gB at ht
      rw [if_neg (fun q => hz q.1)] at ht
      exact absurd rfl ht) 12
  have h2 : fb_ct (fun s => z.testBit (1 + s)) 12 ≤ pop z := by
    have := fb_ct_split (fun s => z.testBit s) 1 12
    unfold pop
    rw [show (13 : Nat) = 1 + 12 from rfl, this]
    omega
  have h3 := Nat.mul_le_mul_right (pop m) h2
  have h4 : ((List.range 0).filterMap (gB l z m 12)).length = 0 := rfl
  omega
theorem pB_12 {l z m s t : Nat} (hm : isPos m = true) (hz : pop z ≤ 4) (hs : s < 12) (ht : t ≤ 12) : (pB l z m s t).length ≤ 12 := by
  obtain ⟨h1, h2, h3⟩ := isPos_sp hm
  have a1 := pB_le_t l z m s t (12 - t)
  rw [show t + (12 - t) = 12 by omega, ← pB_s] at a1
  have a2 := pB_le_s' l z m (s + 1) (12 - (s + 1))
  rw [show s + 1 + (12 - (s + 1)) = 12 by omega] at a2
  have a3 := pB_top (l := l) (z := z) h1
  have a4 := Nat.mul_le_mul hz h3
  omega
/-- the class's list names the same sets -/
theorem mem_pB {l z m x : Nat} (hm : isPos m = true) (hl : l.testBit 0 = false) : x ∈ pB l z m 12 0 ↔ x ∈ nxs l z m := by
  obtain ⟨h1, h2, h3⟩ := isPos_sp hm
  unfold pB
  rw [mem_nxs, List.range_zero, List.filterMap_nil, List.append_nil, List.mem_flatMap]
  constructor
  · rintro ⟨s, hs, hx⟩
    obtain ⟨t, ht, he⟩ := List.mem_filterMap.mp hx
    have b1 := List.mem_range.mp hs
    have b2 := List.mem_range.mp ht
    unfold gB at he
    by_cases hk : z.testBit (1 + s) = true ∧ (tgs m l (1 + s)).testBit t = true
    · rw [if_pos hk] at he
      have e := hk.2
      rw [tb_tgs, Bool.and_eq_true, Bool.not_eq_true', Bool.or_eq_false_iff] at e
      refine ⟨1 + s + t, 1 + s, ?_, by omega, by omega, ?_, ?_⟩
      · rcases Nat.lt_or_ge (1 + s + t) 13 with q | q
        · exact q
        · rw [tb_big h1 q] at e
          exact absurd e.1 (by decide)
      · unfold okS
        rw [show 1 + s + t - (1 + s) = t by omega, e.1, hk.1, e.2.1, e.2.2]
        simp
      · unfold nx
        rw [show 1 + s + t - (1 + s) = t by omega, show 1 + s + t = t + (1 + s) by omega]
        exact (Option.some.inj he).symm
    · rw [if_neg hk] at he
      cases he
  · rintro ⟨h, s, b1, b2, b3, hk, rfl⟩
    obtain ⟨k1, k2, k3, k4, k5⟩ := okS_sp hk
    refine ⟨s - 1, List.mem_range.mpr (by omega), List.mem_filterMap.mpr ⟨h - s, List.mem_range.mpr (by omega), ?_⟩⟩
    unfold gB
    rw [show 1 + (s - 1) = s by omega]
    have e : (tgs m l s).testBit (h - s) = true := by
      rw [tb_tgs, show s + (h - s) = h by omega, k1, k4, k5]
      rfl
    rw [if_pos ⟨k2, e⟩, show h - s + s = h by omega]
    rfl

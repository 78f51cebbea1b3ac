/-! the model: reading of a ladder, the set behind a step -/
theorem wm_of {w : Wd} {l k : Nat} {Post : Int32 → Wd → Prop} (hl : l < 6) (hk : k < 7) (h : Post (gA w 18 (1 + 7 * l + k)) w) : wp_X9_of w (nI l) (nI k) Post := by
  unfold wp_X9_of wp_X9_at
  have e : 1 + (7 * nI l) + nI k = nI (1 + 7 * l + k) := by
    simp only [fa_lit, pk_mul, nI_add]
  show vp_in (1 + (7 * nI l) + nI k) 140 ∧ Post (gA w 18 (1 + (7 * nI l) + nI k).toNatClampNeg) w
  rw [e, nI_clamp (by omega)]
  exact ⟨pk_in (1 + 7 * l + k) 140 (by omega), h⟩
theorem mv_0 {m h : Nat} (h1 : m.testBit h = true) (h0 : m.testBit 0 = false) : m ^^^ 2 ^ h = mv m h 0 := by
  apply Nat.eq_of_testBit_eq
  intro i
  rw [tb_mv, Nat.testBit_xor, Nat.testBit_two_pow]
  by_cases e : i = h
  · subst e
    have : i ≠ 0 := fun q => by rw [q, h0] at h1; cases h1
    simp [h1, this]
  · by_cases z : i = 0
    · subst z
      have : ¬ h = 0 := fun q => e q.symm
      simp [h0, this]
    · have : ¬ h = i := fun q => e q.symm
      simp [e, z, this]
theorem mv_1 {m h t : Nat} (h1 : m.testBit h = true) (h0 : m.testBit 0 = false) (ht : t ≠ 0) (hth : t ≠ h) : (m ^^^ 2 ^ h) ||| 2 ^ t = mv m h t := by
  apply Nat.eq_of_testBit_eq
  intro i
  rw [tb_mv, Nat.testBit_or, Nat.testBit_xor, Nat.testBit_two_pow, Nat.testBit_two_pow]
  by_cases e : i = h
  · subst e
    have : i ≠ 0 := fun q => by rw [q, h0] at h1; cases h1
    simp [h1, this, hth, hth.symm]
  · have q1 : ¬ h = i := fun q => e q.symm
    by_cases z : i = 0
    · subst z
      simp [h0, q1, ht, ht.symm]
    · by_cases q2 : i = t
      · subst q2
        simp [z]
      · have q3 : ¬ t = i := fun q => q2 q.symm
        simp [e, z, q1, q2, q3]
/-- what the model's behind answers -/
def bhM (l m h s : Nat) : Int32 := if s ≤ h ∧ l.testBit (h - s) = false ∧ m.testBit (h - s) = false then nI (nx m h s) else -1
theorem wm_behind {w : Wd} {a l m h s : Nat} {Post : Int32 → Wd → Prop} (ha : a < 6) (el : gA w 18 (1 + 7 * a + 3) = nI l) (hl : l < 8192) (hl0 : l.testBit 0 = false) (hm : m < 8192) (hm0 : m.testBit 0 = false) (hh : h < 13) (hs : 1 ≤ s ∧ s < 13) (hb : m.testBit h = true) (k : Post (bhM l m h s) w) : wp_X9_behind w (nI a) (nI m) (nI h) (nI s) Post := by
  unfold wp_X9_behind
  intro y1 e1
  unfold bhM at k
  by_cases hsh : s ≤ h
  · rw [pk_sub hsh] at e1
    subst e1
    refine ⟨fun _ y2 e2 => ?_, fun c => absurd (nI_pos' (by omega)) c⟩
    rw [nI_shl1 (by omega), fb_xorI] at e2
    subst e2
    refine ⟨fun c => ?_, fun c => ?_⟩
    · simp (disch := omega) only [fa_lit, nI_eq] at c
      rw [c, if_pos ⟨hsh, hl0, hm0⟩] at k
      unfold nx at k
      rw [c] at k
      rw [mv_0 hb hm0]
      exact k
    · simp (disch := omega) only [fa_lit, nI_eq] at c
      refine wm_of (k := 3) ha (by omega) ?_
      rw [el]
      refine wh_has (by omega) (by omega) ?_
      rw [bI_0]
      refine ⟨fun q1 => wh_has (by omega) (by omega) ?_, fun q1 => ?_⟩
      · rw [bI_0]
        refine ⟨fun q2 => ?_, fun q2 => ?_⟩
        · rw [if_pos ⟨hsh, q1, q2⟩] at k
          unfold nx at k
          rw [nI_shl1 (by omega), fa_or, mv_1 hb hm0 c (by omega)]
          exact k
        · rw [if_neg (fun q => q2 q.2.2)] at k
          exact k
      · rw [if_neg (fun q => q1 q.2.1)] at k
        exact k
  · have hneg : nI h - nI s < 0 := pk_sneg (by omega) (by omega)
    subst e1
    rw [if_neg (fun q => hsh q.1)] at k
    exact ⟨fun c => absurd c (fa_of_lt hneg).2.1, fun _ => k⟩

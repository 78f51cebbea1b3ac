/-! lemmas that stood among the parts left out -/
theorem cntR_le (l z m : Nat) : cntR l z m ≤ 8192 := fb_ct_le _ _
/-- a stored byte -/
def byI (b : Int32) : Prop := -128 ≤ b.toInt ∧ b.toInt < 128
def whyF (g : Gm) (r : Rs) (x y z : Int32) : Int32 := if ovB g = true then 1 else whyS g r x y z
theorem tb_top {m t i : Nat} (hm : m < 2 ^ (t + 1)) (hi : t < i) : m.testBit i = false := Nat.testBit_lt_two_pow (Nat.lt_of_lt_of_le hm (Nat.pow_le_pow_right (by decide) hi))
def bufOK (S : Sy) : Prop := ∀ i, i < S.len → byI (S.buf i)
theorem wi2 {x : Int32} (h : ¬ (x < 0 ∨ 1 < x)) : ∃ k, k < 2 ∧ x = nI k := by
  obtain ⟨j, _, h2, e⟩ := rng (a := 0) (b := 1) (by omega) (by omega) (fun q => h (Or.inl q)) (fun q => h (Or.inr q))
  exact ⟨j, by omega, e⟩
theorem past_no {r : Rs} (ha : r.ac = 0) (q : Nat) : pastS r 0 q = -1 := by
  unfold pastS
  rw [ha]
  exact if_pos (Or.inr (by decide))

/-! steps on one ladder: sets of coins m, locked heights l, sizes z, all without the ground -/
theorem lt_tb {x y i : Nat} (hx : x.testBit i = false) (hy : y.testBit i = true) (h : ∀ j, i < j → x.testBit j = y.testBit j) : x < y := by
  have e : x / 2 ^ (i + 1) = y / 2 ^ (i + 1) := by
    apply Nat.eq_of_testBit_eq
    intro j
    rw [Nat.testBit_div_two_pow, Nat.testBit_div_two_pow]
    exact h _ (by omega)
  rw [Nat.testBit_eq_decide_div_mod_eq, decide_eq_false_iff_not] at hx
  rw [Nat.testBit_eq_decide_div_mod_eq, decide_eq_true_eq] at hy
  rw [Nat.pow_succ, ← Nat.div_div_eq_div_mul, ← Nat.div_div_eq_div_mul] at e
  have h2 : x / 2 ^ i < y / 2 ^ i := by omega
  exact Nat.lt_of_not_le (fun q => absurd (Nat.div_le_div_right (c := 2 ^ i) q) (by omega))
def okS (l z m h s : Nat) : Bool := m.testBit h && (z.testBit s && (decide (s ≤ h) && (!l.testBit (h - s) && !m.testBit (h - s))))
def nx (m h s : Nat) : Nat := mv m h (h - s)
theorem tb_mv (c f t i : Nat) : (mv c f t).testBit i = (decide (i ≠ 0) && ((c.testBit i && decide (i ≠ f)) || decide (i = t))) := by
  unfold mv
  rw [tb_clr, Nat.testBit_or, tb_clr, Nat.testBit_two_pow, Nat.testBit_two_pow, show (1 : Nat) = 2 ^ 0 from rfl, Nat.testBit_two_pow]
  by_cases h0 : i = 0 <;> by_cases hf : i = f <;> by_cases ht : i = t <;> simp [h0, hf, ht, eq_comm] <;> (try (subst h0; simp_all [eq_comm])) <;> (try simp_all [eq_comm])
theorem okS_sp {l z m h s : Nat} (hk : okS l z m h s = true) : m.testBit h = true ∧ z.testBit s = true ∧ s ≤ h ∧ l.testBit (h - s) = false ∧ m.testBit (h - s) = false := by
  unfold okS at hk
  simpa [and_assoc] using hk
theorem nx_lt {l z m h s : Nat} (hk : okS l z m h s = true) (hs : 0 < s) (h0 : m.testBit 0 = false) : nx m h s < m := by
  obtain ⟨h1, h2, h3, h4, h5⟩ := okS_sp hk
  have hh : h ≠ 0 := fun e => by rw [e, h0] at h1; cases h1
  refine lt_tb (i := h) ?_ h1 (fun j hj => ?_)
  · unfold nx
    rw [tb_mv]
    have : h ≠ h - s := by omega
    simp [this]
  · unfold nx
    rw [tb_mv]
    have e1 : j ≠ 0 := by omega
    have e2 : j ≠ h := by omega
    have e3 : j ≠ h - s := by omega
    simp [e1, e2, e3]
theorem nx_0 (m h s : Nat) : (nx m h s).testBit 0 = false := by
  unfold nx
  rw [tb_mv]
  simp
theorem pop_nx {l z m h s : Nat} (hk : okS l z m h s = true) (hs : 0 < s) (hb : h < 13) (h0 : m.testBit 0 = false) : pop (nx m h s) ≤ pop m := by
  obtain ⟨h1, h2, h3, h4, h5⟩ := okS_sp hk
  unfold pop
  have hh : h ≠ 0 := fun e => by rw [e, h0] at h1; cases h1
  have a1 : fb_ct (fun k => if k = h then false else m.testBit k) 13 + (if m.testBit h = true then 1 else 0) = fb_ct (fun i => m.testBit i) 13 + (if false = true then 1 else 0) := fb_ct_upd (fun i => m.testBit i) false hb
  rw [if_pos h1, if_neg (by decide)] at a1
  have a2 : fb_ct (fun k => if k = h - s then true else (fun i => if i = h then false else m.testBit i) k) 13 + (if (if h - s = h then false else m.testBit (h - s)) = true then 1 else 0) = fb_ct (fun i => if i = h then false else m.testBit i) 13 + (if true = true then 1 else 0) := fb_ct_upd (fun i => if i = h then false else m.testBit i) true (i := h - s) (n := 13) (by omega)
  rw [if_neg (show ¬ h - s = h by omega), h5, if_neg (by decide), if_pos rfl] at a2
  have e2 : fb_ct (fun i => (nx m h s).testBit i) 13 ≤ fb_ct (fun k => if k = h - s then true else (fun i => if i = h then false else m.testBit i) k) 13 := by
    refine fb_ct_sub (fun k _ hk => ?_)
    unfold nx at hk
    rw [tb_mv] at hk
    show (if k = h - s then true else if k = h then false else m.testBit k) = true
    by_cases q : k = h - s
    · rw [if_pos q]
    · rw [if_neg q]
      by_cases q2 : k = h
      · subst q2; simp at hk; omega
      · rw [if_neg q2]; simp [q, q2] at hk; exact hk.2
  omega

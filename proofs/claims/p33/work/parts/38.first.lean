/-! the class's game at the start: no ladder -/
def g00 : Gm := (0, fun _ => 0, fun _ => 0, fun _ => 0, fun _ => 0, fun _ => 0)
theorem g00_ok : g00.ok := ⟨Nat.zero_le _, fun l hl => absurd hl (Nat.not_lt_zero l)⟩
theorem VC_0 {w : Wd} {k : Nat} (h : gI w (41 + 2 * k) 1 = 0 ∧ gI w (41 + 2 * k) 2 = 0 ∧ gI w (41 + 2 * k) 3 = 0 ∧ gI w (41 + 2 * k) 4 = 0) : ∃ cc z l f, VC w k cc z l f ∧ cc ≤ 3 ∧ z < 8192 ∧ pop z ≤ 4 ∧ l < 8192 ∧ l.testBit 0 = false :=
  ⟨0, 0, 0, 0, ⟨h.1, h.2.1, h.2.2.1, h.2.2.2, Nat.zero_le _, fun r hr => absurd hr (Nat.not_lt_zero r)⟩, by decide, by decide, by decide, by decide, by decide⟩
theorem GC_0 {w : Wd} (h : St0 w) : GC w g00 := by
  obtain ⟨h1, ⟨⟨h2, h3⟩, h4, h5, c0, c1, c2, c3, c4, c5⟩, hh⟩ := id h
  refine ⟨h2, fun l hl => absurd hl (Nat.not_lt_zero l), h5, fun k hk => VC_0 ?_⟩
  rcases (show k = 0 ∨ k = 1 ∨ k = 2 ∨ k = 3 ∨ k = 4 ∨ k = 5 by omega) with rfl | rfl | rfl | rfl | rfl | rfl
  · exact c0
  · exact c1
  · exact c2
  · exact c3
  · exact c4
  · exact c5

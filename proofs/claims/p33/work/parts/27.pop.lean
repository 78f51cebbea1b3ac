/-! counting coins, by both programs -/
def bcI (x : Int32) : Int32 :=
  let y1 := x - (((x.toUInt32 >>> ((1 : Int32).toUInt32 &&& Int32.toUInt32 31)).toInt32) &&& 1431655765)
  let y2 := (y1 &&& 858993459) + (((y1.toUInt32 >>> ((2 : Int32).toUInt32 &&& Int32.toUInt32 31)).toInt32) &&& 858993459)
  let y3 := (y2 + ((y2.toUInt32 >>> ((4 : Int32).toUInt32 &&& Int32.toUInt32 31)).toInt32)) &&& 252645135
  let y4 := y3 + ((y3.toUInt32 >>> ((8 : Int32).toUInt32 &&& Int32.toUInt32 31)).toInt32)
  let y5 := y4 + ((y4.toUInt32 >>> ((16 : Int32).toUInt32 &&& Int32.toUInt32 31)).toInt32)
  y5 &&& 63
theorem bc_all : allB 8192 (fun n => decide (bcI (nI n) = nI (pop n))) = true := by decide +kernel
theorem bc_pop {m : Nat} (hm : m < 8192) : bcI (nI m) = nI (pop m) := of_decide_eq_true (allB_at bc_all hm)
theorem wh_bitCount {w : Wd} {m : Nat} {Post : Int32 → Wd → Prop} (hm : m < 8192) (h : Post (nI (pop m)) w) : wp_J6_bitCount_0f7a4 w (nI m) Post := by
  unfold wp_J6_bitCount_0f7a4
  intro y1 e1 y2 e2 y3 e3 y4 e4 y5 e5
  have e : y5 &&& 63 = bcI (nI m) := by
    subst e1 e2 e3 e4 e5
    rfl
  rw [e, bc_pop hm]
  exact h
theorem low_all : allB 8192 (fun n => n == 0 || (decide ((n &&& (n - 1)) < n) && decide (pop (n &&& (n - 1)) + 1 = pop n))) = true := by decide +kernel
theorem low_pop {m : Nat} (hm : m < 8192) (h0 : m ≠ 0) : (m &&& (m - 1)) < m ∧ pop (m &&& (m - 1)) + 1 = pop m := by
  have h := allB_at low_all hm
  simp only [Bool.or_eq_true, beq_iff_eq, Bool.and_eq_true, decide_eq_true_eq] at h
  rcases h with h | h
  · exact absurd h h0
  · exact h
theorem pop_le (m : Nat) : pop m ≤ 13 := fb_ct_le _ 13

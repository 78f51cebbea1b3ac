/-! doubles: a quotient of two small numbers is no NaN -/
theorem fp_and (r : UInt64) : (r &&& 0x7fffffffffffffff).toNat = r.toNat % 2 ^ 63 := by
  rw [UInt64.toNat_and, show (0x7fffffffffffffff : UInt64).toNat = 2 ^ 63 - 1 from rfl, Nat.and_two_pow_sub_one_eq_mod]
def fpTop : Nat := 2047 * 2 ^ 52
theorem vf_of {r : UInt64} (h : r.toNat % 2 ^ 63 ≤ fpTop) : vf_n64 r := by
  unfold vf_n64
  rw [UInt64.le_iff_toNat_le, fp_and]
  exact h
theorem fp_asm (s : Bool) {e t : Nat} (he : e ≤ 2047) (ht : t < 2 ^ 52) (h : e < 2047 ∨ t = 0) : FP.Core.assemble FP.Core.b64 s e t < 2 ^ 64 ∧ FP.Core.assemble FP.Core.b64 s e t % 2 ^ 63 ≤ fpTop := by
  have e1 : FP.Core.assemble FP.Core.b64 s e t = (s.toNat * 2048 + e) * 2 ^ 52 + t := by
    unfold FP.Core.assemble
    rw [show FP.Core.Fmt.tails FP.Core.b64 = 2 ^ 52 from rfl, show FP.Core.Fmt.exps FP.Core.b64 = 2048 from rfl]
  rw [e1]
  unfold fpTop
  cases s
  · simp only [Bool.toNat_false]
    omega
  · simp only [Bool.toNat_true]
    omega
theorem fp_fin (s : Bool) {c : Nat} {q : Int} (hc : c < 2 ^ 53) (hq : q ≤ 971) : FP.Core.encode FP.Core.b64 (.fin s c q) < 2 ^ 64 ∧ FP.Core.encode FP.Core.b64 (.fin s c q) % 2 ^ 63 ≤ fpTop := by
  have ht : FP.Core.Fmt.tails FP.Core.b64 = 2 ^ 52 := rfl
  have hm : FP.Core.Fmt.qmin FP.Core.b64 = -1074 := rfl
  have e : FP.Core.encode FP.Core.b64 (.fin s c q) = if c < FP.Core.Fmt.tails FP.Core.b64 then FP.Core.assemble FP.Core.b64 s 0 c else FP.Core.assemble FP.Core.b64 s ((q - FP.Core.Fmt.qmin FP.Core.b64).toNat + 1) (c - FP.Core.Fmt.tails FP.Core.b64) := rfl
  rw [e, ht, hm]
  by_cases h : c < 2 ^ 52
  · rw [if_pos h]
    exact fp_asm s (by omega) h (Or.inl (by omega))
  · rw [if_neg h]
    exact fp_asm s (by omega) (by omega) (Or.inl (by omega))
theorem fp_inf (s : Bool) : FP.Core.encode FP.Core.b64 (.inf s) < 2 ^ 64 ∧ FP.Core.encode FP.Core.b64 (.inf s) % 2 ^ 63 ≤ fpTop := by
  unfold FP.Core.encode
  exact fp_asm s (e := FP.Core.Fmt.exps FP.Core.b64 - 1) (by decide) (by decide) (Or.inr rfl)
theorem fp_bound (s : Bool) {c : Nat} {q : Int} (hc : c < 2 ^ 53) : FP.Core.encode FP.Core.b64 (FP.Core.bound FP.Core.b64 s c q) < 2 ^ 64 ∧ FP.Core.encode FP.Core.b64 (FP.Core.bound FP.Core.b64 s c q) % 2 ^ 63 ≤ fpTop := by
  have hm : FP.Core.Fmt.qmax FP.Core.b64 = 971 := rfl
  unfold FP.Core.bound
  by_cases h : q ≤ 971
  · rw [if_pos (by rw [hm]; exact h)]
    exact fp_fin s hc h
  · rw [if_neg (by rw [hm]; exact h)]
    exact fp_inf s
theorem fp_ratio (s : Bool) (num den : Nat) (e : Int) : FP.Core.encode FP.Core.b64 (FP.Core.roundRatio FP.Core.b64 s num den e) < 2 ^ 64 ∧ FP.Core.encode FP.Core.b64 (FP.Core.roundRatio FP.Core.b64 s num den e) % 2 ^ 63 ≤ fpTop := by
  unfold FP.Core.roundRatio
  by_cases h : num = 0
  · rw [if_pos h]
    exact fp_fin s (by decide) (by decide)
  · rw [if_neg h]
    unfold FP.Core.roundAt FP.Core.settle
    have hp : (2 : Nat) ^ FP.Core.b64.p = 2 ^ 53 := rfl
    rw [hp]
    by_cases h2 : FP.Core.nearest (FP.Core.unitsNum num e (FP.Core.quantum FP.Core.b64 num den e)) (FP.Core.unitsDen den e (FP.Core.quantum FP.Core.b64 num den e)) < 2 ^ 53
    · rw [if_pos h2]
      exact fp_bound s h2
    · rw [if_neg h2]
      exact fp_bound s (by decide)
def fpOK (n : Nat) : Bool := match FP.Core.decode FP.Core.b64 (FP.Core.i2d (nI n)).toNat with
  | .fin _ c _ => n == 0 || c != 0
  | _ => false
set_option maxRecDepth 100000 in
theorem fp_all : allB 8193 fpOK = true := by decide +kernel
theorem fp_at {n : Nat} (h : n < 8193) : ∃ s c q, FP.Core.decode FP.Core.b64 (FP.Core.i2d (nI n)).toNat = .fin s c q ∧ (n ≠ 0 → c ≠ 0) := by
  have h1 := allB_at fp_all h
  unfold fpOK at h1
  cases hd : FP.Core.decode FP.Core.b64 (FP.Core.i2d (nI n)).toNat with
  | nan => rw [hd] at h1; cases h1
  | inf s => rw [hd] at h1; cases h1
  | fin s c q =>
    rw [hd] at h1
    refine ⟨s, c, q, rfl, fun hn hc => ?_⟩
    subst hc
    simp [hn] at h1
theorem fp_div {a c : Nat} (ha : a < 8193) (hc : c < 8193) (h0 : c ≠ 0) : (FP.ddiv (FP.i2d (nI a)) (FP.i2d (nI c))).toNat % 2 ^ 63 ≤ fpTop := by
  obtain ⟨s, m, q, e1, _⟩ := fp_at ha
  obtain ⟨t, d, r, e2, e3⟩ := fp_at hc
  have e : (FP.ddiv (FP.i2d (nI a)) (FP.i2d (nI c))) = UInt64.ofNat (FP.Core.encode FP.Core.b64 (FP.Core.roundRatio FP.Core.b64 (s != t) m d (q - r))) := by
    show UInt64.ofNat (FP.Core.encode FP.Core.b64 (FP.Core.quotient FP.Core.b64 (FP.Core.decode FP.Core.b64 (FP.Core.i2d (nI a)).toNat) (FP.Core.decode FP.Core.b64 (FP.Core.i2d (nI c)).toNat))) = _
    rw [e1, e2]
    unfold FP.Core.quotient
    simp only
    rw [if_neg (e3 h0)]
  obtain ⟨f1, f2⟩ := fp_ratio (s != t) m d (q - r)
  rw [e, UInt64.toNat_ofNat', Nat.mod_eq_of_lt f1]
  exact f2
theorem fp_order {x : FP.Core.Datum} (h : x ≠ .nan) : FP.Core.order x x = some .eq := by
  have hc : ∀ z : Int, compare z z = .eq := fun z => by
    simp [compare, compareOfLessAndEq]
  cases x with
  | nan => exact absurd rfl h
  | inf s => exact congrArg some (hc _)
  | fin s c q => exact congrArg some (hc _)
theorem fp_self {r : UInt64} (h : r.toNat % 2 ^ 63 ≤ fpTop) : FP.dcmp r r = some .eq := by
  refine fp_order (x := FP.Core.decode FP.Core.b64 r.toNat) (fun hn => ?_)
  unfold FP.Core.decode at hn
  unfold fpTop at h
  have hT : FP.Core.fieldT FP.Core.b64 r.toNat = r.toNat % 2 ^ 52 := rfl
  have hE : FP.Core.fieldE FP.Core.b64 r.toNat = r.toNat / 2 ^ 52 % 2048 := rfl
  have hX : FP.Core.Fmt.exps FP.Core.b64 - 1 = 2047 := rfl
  rw [hT, hE, hX] at hn
  by_cases q : r.toNat / 2 ^ 52 % 2048 = 2047
  · rw [if_pos q, if_pos (by omega)] at hn
    cases hn
  · rw [if_neg q] at hn
    by_cases q2 : r.toNat / 2 ^ 52 % 2048 = 0
    · rw [if_pos q2] at hn
      cases hn
    · rw [if_neg q2] at hn
      cases hn
theorem fp_cmp {r : UInt64} (h : r.toNat % 2 ^ 63 ≤ fpTop) : Op.cmpValue (FP.dcmp r r) .l = 0 := by
  rw [fp_self h]
  rfl
theorem fp_wide {a : Nat} (h : a < 2 ^ 31) : FP.l2d (lN a) = FP.i2d (nI a) := by
  show UInt64.ofNat (FP.Core.fromInt FP.Core.b64 (lN a).toInt) = UInt64.ofNat (FP.Core.fromInt FP.Core.b64 (nI a).toInt)
  rw [pk_lT (by omega), nI_toInt h]
/-- the mean value -/
noncomputable def mnD (l z m : Nat) : UInt64 := FP.ddiv (FP.i2d (nI (smR l z m))) (FP.i2d (nI (cntR l z m)))
theorem cntR_pos {l z m : Nat} (hm : isPos m = true) : cntR l z m ≠ 0 := by
  intro h
  have h1 := fb_ct_zero.mp h m (isPos_sp hm).1
  have : rchB l z m m = true := rch_iff.mpr ⟨0, rfl⟩
  rw [this] at h1
  cases h1
theorem mnD_ok {l z m : Nat} (hm : isPos m = true) (hz : pop z ≤ 4) : (mnD l z m).toNat % 2 ^ 63 ≤ fpTop := by
  have h1 := smR_le (l := l) hm hz
  have h2 := cntR_le l z m
  exact fp_div (by omega) (by omega) (cntR_pos hm)
theorem fp_0 : FP.dconst0.toNat % 2 ^ 63 ≤ fpTop := by decide

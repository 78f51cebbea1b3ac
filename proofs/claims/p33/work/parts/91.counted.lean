/-! what the law counts -/
theorem fS_cnt {g : Gm} {r : Rs} {l h : Nat} (hg : g.ok) (hr : freeR g.n r) (hl : l < g.n) : ∀ k, (fS g r l h k).length = fb_ct (fun i => okS (g.lk l) (g.sz l) (g.co l) h (12 - i)) k
  | 0 => rfl
  | k + 1 => by
    rw [fS, List.length_append, fS_cnt hg hr hl k, fb_ct_succ, alB_free hg hr hl]
    by_cases q : okS (g.lk l) (g.sz l) (g.co l) h (12 - k) = true
    · rw [if_pos q, if_pos q]
      simp
      omega
    · rw [if_neg q, if_neg q]
      simp
theorem fS_12 {g : Gm} {r : Rs} {l h : Nat} (hg : g.ok) (hr : freeR g.n r) (hl : l < g.n) : (fS g r l h 12).length = fb_ct (fun s => okS (g.lk l) (g.sz l) (g.co l) h (1 + s)) 12 := by
  rw [fS_cnt hg hr hl]
  have h1 : fb_ct (fun i => okS (g.lk l) (g.sz l) (g.co l) h (12 - i)) 12 + (if okS (g.lk l) (g.sz l) (g.co l) h 0 = true then 1 else 0) = fb_ct (fun s => okS (g.lk l) (g.sz l) (g.co l) h s) 13 := rev12 (fun s => okS (g.lk l) (g.sz l) (g.co l) h s)
  have h2 : fb_ct (fun s => okS (g.lk l) (g.sz l) (g.co l) h s) 13 = fb_ct (fun s => okS (g.lk l) (g.sz l) (g.co l) h s) 1 + fb_ct (fun s => okS (g.lk l) (g.sz l) (g.co l) h (1 + s)) 12 := fb_ct_split (fun s => okS (g.lk l) (g.sz l) (g.co l) h s) 1 12
  have h3 : fb_ct (fun s => okS (g.lk l) (g.sz l) (g.co l) h s) 1 = if okS (g.lk l) (g.sz l) (g.co l) h 0 = true then 1 else 0 := by
    rw [show (1 : Nat) = 0 + 1 from rfl, fb_ct_succ]
    exact Nat.zero_add _
  omega
theorem ok_0 {l z m s : Nat} (h0 : m.testBit 0 = false) : okS l z m 0 s = false := by
  cases q : okS l z m 0 s with
  | false => rfl
  | true =>
    rw [(okS_sp q).1] at h0
    cases h0
theorem fH_cnt {g : Gm} {r : Rs} {l : Nat} (hg : g.ok) (hr : freeR g.n r) (hl : l < g.n) : ∀ k, (fH g r l k).length = fb_sm (fun h => fb_ct (fun s => okS (g.lk l) (g.sz l) (g.co l) h (1 + s)) 12) (k + 1)
  | 0 => by
    obtain ⟨b1, b2, b3, b4, b5, b6, b7, b8, b9, b10⟩ := hg.2 l hl
    rw [fb_sm_succ, show fb_ct (fun s => okS (g.lk l) (g.sz l) (g.co l) 0 (1 + s)) 12 = 0 from fb_ct_zero.mpr (fun s _ => ok_0 b9)]
    rfl
  | k + 1 => by
    rw [fH, List.length_append, fH_cnt hg hr hl k, fS_12 hg hr hl, fb_sm_succ _ (k + 1)]
    omega
theorem fH_st {g : Gm} {r : Rs} {l : Nat} (hg : g.ok) (hr : freeR g.n r) (hl : l < g.n) : (fH g r l (g.top l)).length = stG g l := by
  obtain ⟨b1, b2, b3, b4, b5, b6, b7, b8, b9, b10⟩ := hg.2 l hl
  rw [fH_cnt hg hr hl]
  have h1 : fb_sm (fun h => fb_ct (fun s => okS (g.lk l) (g.sz l) (g.co l) h (1 + s)) 12) (g.top l + 1 + (12 - g.top l)) = fb_sm (fun h => fb_ct (fun s => okS (g.lk l) (g.sz l) (g.co l) h (1 + s)) 12) (g.top l + 1) + fb_sm (fun k => fb_ct (fun s => okS (g.lk l) (g.sz l) (g.co l) (g.top l + 1 + k) (1 + s)) 12) (12 - g.top l) := fb_sm_split _ (g.top l + 1) (12 - g.top l)
  rw [show g.top l + 1 + (12 - g.top l) = 13 by omega] at h1
  have h2 : fb_sm (fun k => fb_ct (fun s => okS (g.lk l) (g.sz l) (g.co l) (g.top l + 1 + k) (1 + s)) 12) (12 - g.top l) = 0 := by
    rw [fb_sm_cong (g := fun _ => 0) (fun k _ => ?_), fb_sm_const, Nat.mul_zero]
    show fb_ct (fun s => okS (g.lk l) (g.sz l) (g.co l) (g.top l + 1 + k) (1 + s)) 12 = 0
    refine fb_ct_zero.mpr (fun s _ => ?_)
    cases q : okS (g.lk l) (g.sz l) (g.co l) (g.top l + 1 + k) (1 + s) with
    | false => rfl
    | true =>
      have : (g.co l).testBit (g.top l + 1 + k) = false := Nat.testBit_lt_two_pow (Nat.lt_of_lt_of_le b8 (Nat.pow_le_pow_right (by decide) (by omega)))
      rw [(okS_sp q).1] at this
      cases this
  show _ = fb_sm (fun h => fb_ct (fun s => okS (g.lk l) (g.sz l) (g.co l) h (1 + s)) 12) 13
  omega
theorem fL_cnt {g : Gm} {r : Rs} (hg : g.ok) (hr : freeR g.n r) : ∀ k, k ≤ g.n → (fL g r k).length + fb_sm (stG g) (g.n - k) = fb_sm (stG g) g.n
  | 0, _ => Nat.zero_add _
  | k + 1, hk => by
    have ih := fL_cnt hg hr k (by omega)
    rw [fL, List.length_append, fH_st hg hr (by omega)]
    rw [show g.n - k = (g.n - (k + 1)) + 1 by omega, fb_sm_succ] at ih
    omega
theorem chs_cnt {g : Gm} {r : Rs} (hg : g.ok) (hr : freeR g.n r) : (chs g r).length = fb_sm (stG g) g.n := by
  have h := fL_cnt hg hr g.n (Nat.le_refl _)
  rw [Nat.sub_self] at h
  exact h
theorem lng_st {l z m : Nat} (h0 : m.testBit 0 = false) : (lng l z m = 0 ↔ stN l z m = 0) := by
  rw [st_nxs, lng_eq h0]
  cases h : nxs l z m with
  | nil => exact ⟨fun _ => rfl, fun _ => rfl⟩
  | cons a xs =>
    refine ⟨fun q => ?_, fun q => by cases q⟩
    have h1 := mxl_ge (f := fun x => lng l z x + 1) (x := a) (xs := a :: xs) List.mem_cons_self
    rw [q] at h1
    exact absurd h1 (Nat.not_succ_le_zero _)
theorem cntR_2 {l z m : Nat} (hm : isPos m = true) (h : stN l z m ≠ 0) : 2 ≤ cntR l z m := by
  obtain ⟨m1, m2, m3⟩ := isPos_sp hm
  have hne : nxs l z m ≠ [] := fun q => h (st_nxs.mpr q)
  obtain ⟨x, hx⟩ := List.exists_mem_of_ne_nil _ hne
  have hlt := (nxs_lt m2 hx).1
  have hrx : rchB l z m x = true := rch_iff.mpr ⟨1, m, rfl, hx⟩
  have hrm : rchB l z m m = true := rch_iff.mpr ⟨0, rfl⟩
  have h1 := fb_ct_upd (fun x => rchB l z m x) false (i := m) (n := 8192) m1
  rw [if_pos hrm, if_neg (by decide)] at h1
  have h2 : 0 < fb_ct (fun k => if k = m then false else rchB l z m k) 8192 := fb_ct_pos.mpr ⟨x, by omega, by show (if x = m then false else rchB l z m x) = true; rw [if_neg (by omega)]; exact hrx⟩
  have h1 : fb_ct (fun k => if k = m then false else rchB l z m k) 8192 + 1 = fb_ct (fun x => rchB l z m x) 8192 + 0 := h1
  show 2 ≤ fb_ct (fun x => rchB l z m x) 8192
  omega
/-! the mean value is not less than 0 -/
theorem fp_asm0 {e t : Nat} (he : e ≤ 2047) (ht : t < 2 ^ 52) : FP.Core.assemble FP.Core.b64 false e t < 2 ^ 63 := by
  have e1 : FP.Core.assemble FP.Core.b64 false e t = (0 * 2048 + e) * 2 ^ 52 + t := by
    unfold FP.Core.assemble
    rw [show FP.Core.Fmt.tails FP.Core.b64 = 2 ^ 52 from rfl, show FP.Core.Fmt.exps FP.Core.b64 = 2048 from rfl]
    rfl
  rw [e1]
  omega
theorem fp_fin0 {c : Nat} {q : Int} (hc : c < 2 ^ 53) (hq : q ≤ 971) : FP.Core.encode FP.Core.b64 (.fin false c q) < 2 ^ 63 := by
  have ht : FP.Core.Fmt.tails FP.Core.b64 = 2 ^ 52 := rfl
  have hm : FP.Core.Fmt.qmin FP.Core.b64 = -1074 := rfl
  have e : FP.Core.encode FP.Core.b64 (.fin false c q) = if c < FP.Core.Fmt.tails FP.Core.b64 then FP.Core.assemble FP.Core.b64 false 0 c else FP.Core.assemble FP.Core.b64 false ((q - FP.Core.Fmt.qmin FP.Core.b64).toNat + 1) (c - FP.Core.Fmt.tails FP.Core.b64) := rfl
  rw [e, ht, hm]
  by_cases h : c < 2 ^ 52
  · rw [if_pos h]
    exact fp_asm0 (by omega) h
  · rw [if_neg h]
    exact fp_asm0 (by omega) (by omega)
theorem fp_inf0 : FP.Core.encode FP.Core.b64 (.inf false) < 2 ^ 63 := by
  unfold FP.Core.encode
  exact fp_asm0 (e := FP.Core.Fmt.exps FP.Core.b64 - 1) (by decide) (by decide)
theorem fp_bound0 {c : Nat} {q : Int} (hc : c < 2 ^ 53) : FP.Core.encode FP.Core.b64 (FP.Core.bound FP.Core.b64 false c q) < 2 ^ 63 := by
  have hm : FP.Core.Fmt.qmax FP.Core.b64 = 971 := rfl
  unfold FP.Core.bound
  by_cases h : q ≤ 971
  · rw [if_pos (by rw [hm]; exact h)]
    exact fp_fin0 hc h
  · rw [if_neg (by rw [hm]; exact h)]
    exact fp_inf0
theorem fp_ratio0 (num den : Nat) (e : Int) : FP.Core.encode FP.Core.b64 (FP.Core.roundRatio FP.Core.b64 false num den e) < 2 ^ 63 := by
  unfold FP.Core.roundRatio
  by_cases h : num = 0
  · rw [if_pos h]
    exact fp_fin0 (by decide) (by decide)
  · rw [if_neg h]
    unfold FP.Core.roundAt FP.Core.settle
    have hp : (2 : Nat) ^ FP.Core.b64.p = 2 ^ 53 := rfl
    rw [hp]
    by_cases h2 : FP.Core.nearest (FP.Core.unitsNum num e (FP.Core.quantum FP.Core.b64 num den e)) (FP.Core.unitsDen den e (FP.Core.quantum FP.Core.b64 num den e)) < 2 ^ 53
    · rw [if_pos h2]
      exact fp_bound0 h2
    · rw [if_neg h2]
      exact fp_bound0 (by decide)
def fpOK0 (n : Nat) : Bool := match FP.Core.decode FP.Core.b64 (FP.Core.i2d (nI n)).toNat with
  | .fin s _ _ => !s
  | _ => false
set_option maxRecDepth 100000 in
theorem fp_all0 : allB 8193 fpOK0 = true := by decide +kernel
theorem fp_at0 {n : Nat} (h : n < 8193) : ∃ c q, FP.Core.decode FP.Core.b64 (FP.Core.i2d (nI n)).toNat = .fin false c q ∧ (n ≠ 0 → c ≠ 0) := by
  obtain ⟨s, c, q, e, hc⟩ := fp_at h
  have h1 := allB_at fp_all0 h
  unfold fpOK0 at h1
  rw [e] at h1
  have hs : s = false := by simpa using h1
  subst hs
  exact ⟨c, q, e, hc⟩
theorem fp_div0 {a c : Nat} (ha : a < 8193) (hc : c < 8193) (h0 : c ≠ 0) : (FP.ddiv (FP.i2d (nI a)) (FP.i2d (nI c))).toNat < 2 ^ 63 := by
  obtain ⟨m, q, e1, _⟩ := fp_at0 ha
  obtain ⟨d, r, e2, e3⟩ := fp_at0 hc
  have e : (FP.ddiv (FP.i2d (nI a)) (FP.i2d (nI c))) = UInt64.ofNat (FP.Core.encode FP.Core.b64 (FP.Core.roundRatio FP.Core.b64 false m d (q - r))) := by
    show UInt64.ofNat (FP.Core.encode FP.Core.b64 (FP.Core.quotient FP.Core.b64 (FP.Core.decode FP.Core.b64 (FP.Core.i2d (nI a)).toNat) (FP.Core.decode FP.Core.b64 (FP.Core.i2d (nI c)).toNat))) = _
    rw [e1, e2]
    unfold FP.Core.quotient
    simp only
    rw [if_neg (e3 h0)]
    rfl
  have f1 := fp_ratio0 m d (q - r)
  rw [e, UInt64.toNat_ofNat', Nat.mod_eq_of_lt (by omega)]
  exact f1
theorem fp_cmp0 (x : Int) (h : 0 ≤ x) : compare x 0 ≠ .lt := by
  intro q
  rw [Int.compare_eq_lt] at q
  omega
theorem fp_nn {r : UInt64} (h : r.toNat < 2 ^ 63) : FP.dcmp r FP.dconst0 ≠ some .lt := by
  show FP.Core.order (FP.Core.decode FP.Core.b64 r.toNat) (FP.Core.decode FP.Core.b64 FP.dconst0.toNat) ≠ some .lt
  have e0 : FP.Core.decode FP.Core.b64 FP.dconst0.toNat = .fin false 0 (-1074) := by decide
  have hS : FP.Core.fieldS FP.Core.b64 r.toNat = false := by
    show (r.toNat / 2 ^ 52 / 2048 % 2 == 1) = false
    rw [Nat.div_div_eq_div_mul, Nat.div_eq_of_lt (by omega)]
    rfl
  have fin : ∀ (c : Nat) (q : Int), FP.Core.order (.fin false c q) (.fin false 0 (-1074)) ≠ some .lt := by
    intro c q hq
    have hq : some (compare (FP.Core.signed false (FP.Core.inUnits c q (min q (-1074)))) (FP.Core.signed false (FP.Core.inUnits 0 (-1074) (min q (-1074))))) = some Ordering.lt := hq
    have z : FP.Core.signed false (FP.Core.inUnits 0 (-1074) (min q (-1074))) = 0 := by
      unfold FP.Core.inUnits FP.Core.signed
      simp
    rw [z] at hq
    refine fp_cmp0 _ ?_ (Option.some.inj hq)
    show (0 : Int) ≤ ((FP.Core.inUnits c q (min q (-1074)) : Nat) : Int)
    omega
  rw [e0]
  unfold FP.Core.decode
  rw [hS]
  split
  · split
    · intro q
      have q : some (compare (FP.Core.signed false 1) 0) = some Ordering.lt := q
      exact absurd q (by decide)
    · intro q
      cases q
  · split
    · exact fin _ _
    · exact fin _ _
theorem fp_ge {r : UInt64} (h : r.toNat < 2 ^ 63) : 0 ≤ Op.cmpValue (FP.dcmp r FP.dconst0) .g := by
  have h1 := fp_nn h
  cases q : FP.dcmp r FP.dconst0 with
  | none => decide
  | some o =>
    cases o with
    | lt => exact absurd q h1
    | eq => decide
    | gt => decide
theorem mnD_ge {l z m : Nat} (hm : isPos m = true) (hz : pop z ≤ 4) : 0 ≤ Op.cmpValue (FP.dcmp (mnD l z m) FP.dconst0) .g := by
  have h1 := smR_le (l := l) hm hz
  have h2 := cntR_le l z m
  exact fp_ge (fp_div0 (by omega) (by omega) (cntR_pos hm))

/-! ways of steps, and what can be reached -/
def way (l z m : Nat) : Nat → Nat → Prop
  | 0, x => x = m
  | k + 1, x => ∃ y, way l z m k y ∧ x ∈ nxs l z y
theorem way_cons {l z m y : Nat} (hy : y ∈ nxs l z m) : ∀ {k x : Nat}, way l z y k x → way l z m (k + 1) x
  | 0, x, h => ⟨m, rfl, by rw [show x = y from h]; exact hy⟩
  | k + 1, x, ⟨u, h1, h2⟩ => ⟨u, way_cons hy h1, h2⟩
theorem way_uncons {l z m : Nat} : ∀ {k x : Nat}, way l z m (k + 1) x → ∃ y, y ∈ nxs l z m ∧ way l z y k x
  | 0, x, ⟨u, h1, h2⟩ => ⟨x, by rw [show u = m from h1] at h2; exact h2, rfl⟩
  | k + 1, x, ⟨u, h1, h2⟩ => by
    obtain ⟨y, g1, g2⟩ := way_uncons h1
    exact ⟨y, g1, u, g2, h2⟩
theorem way_pos {l z m : Nat} (hm : isPos m = true) : ∀ {k x : Nat}, way l z m k x → isPos x = true ∧ pop x ≤ pop m ∧ k + rankN x ≤ rankN m ∧ x ≤ m
  | 0, x, h => by
    rw [show x = m from h]
    exact ⟨hm, Nat.le_refl _, by omega, Nat.le_refl _⟩
  | k + 1, x, ⟨u, h1, h2⟩ => by
    obtain ⟨p1, p2, p3, p4⟩ := way_pos hm h1
    obtain ⟨q1, q2, q3⟩ := nxs_pos p1 h2
    have := (nxs_lt (isPos_sp p1).2.1 h2).1
    exact ⟨q1, by omega, by omega, by omega⟩
def mxl (f : Nat → Nat) (xs : List Nat) : Nat := xs.foldr (fun x a => max (f x) a) 0
theorem mxl_ge {f : Nat → Nat} {x : Nat} : ∀ {xs : List Nat}, x ∈ xs → f x ≤ mxl f xs
  | a :: xs, h => by
    show f x ≤ max (f a) (mxl f xs)
    rcases List.mem_cons.mp h with rfl | h
    · exact Nat.le_max_left _ _
    · exact Nat.le_trans (mxl_ge h) (Nat.le_max_right _ _)
theorem mxl_ex {f : Nat → Nat} : ∀ (xs : List Nat), mxl f xs = 0 ∨ ∃ x, x ∈ xs ∧ mxl f xs = f x
  | [] => Or.inl rfl
  | a :: xs => by
    have e : mxl f (a :: xs) = max (f a) (mxl f xs) := rfl
    rcases Nat.le_total (f a) (mxl f xs) with q | q
    · rw [e, Nat.max_eq_right q]
      rcases mxl_ex xs with h | ⟨x, h1, h2⟩
      · exact Or.inl h
      · exact Or.inr ⟨x, List.mem_cons_of_mem _ h1, h2⟩
    · rw [e, Nat.max_eq_left q]
      exact Or.inr ⟨a, List.mem_cons_self, rfl⟩
theorem mxl_cong {f g : Nat → Nat} : ∀ {xs : List Nat}, (∀ x ∈ xs, f x = g x) → mxl f xs = mxl g xs
  | [], _ => rfl
  | a :: xs, h => by
    show max (f a) (mxl f xs) = max (g a) (mxl g xs)
    rw [h a List.mem_cons_self, mxl_cong (fun x hx => h x (List.mem_cons_of_mem _ hx))]
def gF (l z : Nat) : Nat → Nat → Nat
  | 0, _ => 0
  | F + 1, m => mxl (fun x => gF l z F x + 1) (nxs l z m)
theorem gF_same (l z : Nat) : ∀ F G m, m.testBit 0 = false → m < F → m < G → gF l z F m = gF l z G m
  | F + 1, G + 1, m, h0, hF, hG => mxl_cong fun x hx => by
    obtain ⟨h1, h2⟩ := nxs_lt h0 hx
    rw [gF_same l z F G x h2 (by omega) (by omega)]
def lng (l z m : Nat) : Nat := gF l z (m + 1) m
theorem lng_eq {l z m : Nat} (h0 : m.testBit 0 = false) : lng l z m = mxl (fun x => lng l z x + 1) (nxs l z m) := by
  show mxl (fun x => gF l z m x + 1) (nxs l z m) = _
  refine mxl_cong fun x hx => ?_
  obtain ⟨h1, h2⟩ := nxs_lt h0 hx
  unfold lng
  rw [gF_same l z m (x + 1) x h2 h1 (by omega)]
theorem lng_way {l z : Nat} : ∀ (n m : Nat), m < n → m.testBit 0 = false → ∃ x, way l z m (lng l z m) x
  | n + 1, m, hm, h0 => by
    rcases mxl_ex (f := fun x => lng l z x + 1) (nxs l z m) with h | ⟨x, h1, h2⟩
    · exact ⟨m, by rw [lng_eq h0, h]; rfl⟩
    · obtain ⟨g1, g2⟩ := nxs_lt h0 h1
      obtain ⟨u, hu⟩ := lng_way n x (by omega) g2
      exact ⟨u, by rw [lng_eq h0, h2]; exact way_cons h1 hu⟩
theorem way_le {l z : Nat} : ∀ {k m x : Nat}, m.testBit 0 = false → way l z m k x → k ≤ lng l z m
  | 0, _, _, _, _ => Nat.zero_le _
  | k + 1, m, x, h0, h => by
    obtain ⟨y, g1, g2⟩ := way_uncons h
    have h2 := way_le (nxs_lt h0 g1).2 g2
    rw [lng_eq h0]
    have := mxl_ge (f := fun x => lng l z x + 1) g1
    exact Nat.le_trans (by show k + 1 ≤ lng l z y + 1; omega) this
noncomputable def rchB (l z m x : Nat) : Bool := @decide (∃ k, way l z m k x) (Classical.propDecidable _)
theorem rch_iff {l z m x : Nat} : rchB l z m x = true ↔ ∃ k, way l z m k x := by
  unfold rchB
  exact @decide_eq_true_iff _ (Classical.propDecidable _)
noncomputable def cntR (l z m : Nat) : Nat := fb_ct (fun x => rchB l z m x) 8192
noncomputable def smR (l z m : Nat) : Nat := fb_sm (fun x => if rchB l z m x = true then val l z x else 0) 8192
theorem notPos {x R : Nat} (h1 : posN R < x) (hR : R < 299) (h2 : ∀ r, r < 299 → R < r → x < posN r) : isPos x = false := by
  cases h : isPos x
  · rfl
  · obtain ⟨a, b⟩ := rank_ok h
    rcases Nat.lt_trichotomy (rankN x) R with q | q | q
    · have := pos_lt hR q
      omega
    · rw [q] at b
      omega
    · have := h2 _ a q
      omega
theorem sm_pos {f : Nat → Nat} (hf : ∀ x, isPos x = false → f x = 0) : fb_sm f 8192 = fb_sm (fun r => f (posN r)) 299 := by
  have gap : ∀ a d, (∀ k, k < d → f (a + 1 + k) = 0) → fb_sm f (a + (1 + d)) = fb_sm f a + f a := by
    intro a d h
    rw [← Nat.add_assoc, fb_sm_split, fb_sm_succ]
    have : fb_sm (fun k => f (a + 1 + k)) d = 0 := by
      rw [fb_sm_cong (g := fun _ => 0) (fun k hk => h k hk), fb_sm_const, Nat.mul_zero]
    omega
  have key : ∀ R, R < 299 → fb_sm f (posN R) = fb_sm (fun r => f (posN r)) R := by
    intro R
    induction R with
    | zero =>
      intro _
      rw [show posN 0 = 0 by decide +kernel]
      rfl
    | succ R ih =>
      intro hR
      have hl := pos_lt hR (Nat.lt_succ_self R)
      obtain ⟨d, hd⟩ : ∃ d, posN (R + 1) = posN R + (1 + d) := ⟨posN (R + 1) - posN R - 1, by omega⟩
      rw [hd, gap (posN R) d (fun k hk => hf _ (notPos (R := R) (by omega) (by omega) (fun r hr hlt => ?_))), ih (by omega), fb_sm_succ]
      rcases Nat.lt_or_ge (R + 1) r with q | q
      · have := pos_lt hr q
        omega
      · obtain rfl : r = R + 1 := by omega
        omega
  have h8 : posN 298 < 8192 := by decide +kernel
  obtain ⟨d, hd⟩ : ∃ d, 8192 = posN 298 + (1 + d) := ⟨8192 - posN 298 - 1, by omega⟩
  rw [hd, gap (posN 298) d (fun k hk => hf _ (notPos (R := 298) (by omega) (by omega) (fun r hr hlt => by omega))), key 298 (by omega)]
  exact (fb_sm_succ (fun r => f (posN r)) 298).symm
theorem cnt_pos {p : Nat → Bool} (hp : ∀ x, p x = true → isPos x = true) : fb_ct p 8192 = fb_ct (fun r => p (posN r)) 299 := by
  rw [← fb_sm_ite, ← fb_sm_ite]
  refine sm_pos (f := fun x => if p x = true then 1 else 0) (fun x hx => if_neg (fun c => ?_))
  rw [hp x c] at hx
  cases hx
theorem rch_pos {l z m x : Nat} (hm : isPos m = true) (h : rchB l z m x = true) : isPos x = true ∧ pop x ≤ pop m := by
  obtain ⟨k, hk⟩ := rch_iff.mp h
  obtain ⟨a, b, _, _⟩ := way_pos hm hk
  exact ⟨a, b⟩
/-- how many steps at most lead to each place, one more: 0 if none do -/
def rOK (l z m : Nat) (D : Nat → Nat) : Prop := (∀ r, r < 299 → 0 < D r → way l z m (D r - 1) (posN r)) ∧ ∀ k x, way l z m k x → k + 1 ≤ D (rankN x)
theorem rOK_rch {l z m : Nat} {D : Nat → Nat} (hm : isPos m = true) (h : rOK l z m D) {r : Nat} (hr : r < 299) : decide (0 < D r) = rchB l z m (posN r) := by
  cases hb : rchB l z m (posN r)
  · refine decide_eq_false (fun c => ?_)
    have := rch_iff.mpr ⟨_, h.1 r hr c⟩
    rw [hb] at this
    cases this
  · obtain ⟨k, hk⟩ := rch_iff.mp hb
    have := h.2 k _ hk
    rw [(pos_ok hr).2] at this
    exact decide_eq_true (by omega)
theorem rOK_cnt {l z m : Nat} {D : Nat → Nat} (hm : isPos m = true) (h : rOK l z m D) : fb_ct (fun r => decide (0 < D r)) 299 = cntR l z m := by
  unfold cntR
  rw [cnt_pos (fun x hx => (rch_pos hm hx).1)]
  exact fb_ct_cong (fun r hr => rOK_rch hm h hr)
theorem rOK_sm {l z m : Nat} {D : Nat → Nat} (hm : isPos m = true) (h : rOK l z m D) : fb_sm (fun r => if 0 < D r then val l z (posN r) else 0) 299 = smR l z m := by
  unfold smR
  rw [sm_pos (f := fun x => if rchB l z m x = true then val l z x else 0) (fun x hx => if_neg (fun c => by rw [(rch_pos hm c).1] at hx; cases hx))]
  refine fb_sm_cong (fun r hr => ?_)
  have := rOK_rch hm h hr
  by_cases q : 0 < D r
  · rw [decide_eq_true q] at this
    rw [if_pos q, if_pos this.symm]
  · rw [decide_eq_false q] at this
    rw [if_neg q, if_neg (by rw [← this]; decide)]
theorem rOK_le {l z m : Nat} {D : Nat → Nat} (hm : isPos m = true) (h : rOK l z m D) {r : Nat} (hr : r < 299) : D r ≤ lng l z m + 1 := by
  rcases Nat.eq_zero_or_pos (D r) with q | q
  · omega
  · have := way_le (isPos_sp hm).2.1 (h.1 r hr q)
    omega
theorem rOK_top {l z m : Nat} {D : Nat → Nat} (hm : isPos m = true) (h : rOK l z m D) : ∃ r, r < 299 ∧ D r = lng l z m + 1 := by
  obtain ⟨x, hx⟩ := lng_way (l := l) (z := z) (m + 1) m (by omega) (isPos_sp hm).2.1
  obtain ⟨a, b, c, d⟩ := way_pos hm hx
  have h1 := h.2 _ _ hx
  have h2 := rOK_le hm h (rank_ok a).1
  exact ⟨rankN x, (rank_ok a).1, by omega⟩
theorem lng_lt {l z m : Nat} (hm : isPos m = true) : lng l z m < 299 := by
  obtain ⟨x, hx⟩ := lng_way (l := l) (z := z) (m + 1) m (by omega) (isPos_sp hm).2.1
  obtain ⟨a, b, c, d⟩ := way_pos hm hx
  have := (rank_ok hm).1
  omega

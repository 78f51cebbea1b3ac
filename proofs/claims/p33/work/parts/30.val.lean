/-! values: the least number that no step leads to -/
def nxs (l z m : Nat) : List Nat := (List.range 13).flatMap fun h => (List.range 12).filterMap fun s => if okS l z m h (1 + s) = true then some (nx m h (1 + s)) else none
theorem mem_nxs {l z m x : Nat} : x ∈ nxs l z m ↔ ∃ h s, h < 13 ∧ 1 ≤ s ∧ s ≤ 12 ∧ okS l z m h s = true ∧ x = nx m h s := by
  unfold nxs
  rw [List.mem_flatMap]
  constructor
  · rintro ⟨h, hh, hx⟩
    obtain ⟨s, hs, he⟩ := List.mem_filterMap.mp hx
    have h1 := List.mem_range.mp hh
    have h2 := List.mem_range.mp hs
    by_cases hk : okS l z m h (1 + s) = true
    · rw [if_pos hk] at he
      exact ⟨h, 1 + s, h1, by omega, by omega, hk, (Option.some.inj he).symm⟩
    · rw [if_neg hk] at he
      cases he
  · rintro ⟨h, s, h1, h2, h3, hk, rfl⟩
    refine ⟨h, List.mem_range.mpr h1, List.mem_filterMap.mpr ⟨s - 1, List.mem_range.mpr (by omega), ?_⟩⟩
    rw [show 1 + (s - 1) = s by omega, if_pos hk]
theorem len_fm (g : Nat → Option Nat) (q : Nat → Bool) (h : ∀ s, g s ≠ none → q s = true) : ∀ n, ((List.range n).filterMap g).length ≤ fb_ct q n
  | 0 => Nat.le_refl _
  | n + 1 => by
    rw [List.range_succ, List.filterMap_append, List.length_append, fb_ct_succ]
    have ih := len_fm g q h n
    have h2 : (List.filterMap g [n]).length ≤ if q n = true then 1 else 0 := by
      cases hg : g n with
      | none => simp [hg]
      | some x => rw [h n (by rw [hg]; simp)]; simp [hg]
    omega
theorem len_bm (f : Nat → List Nat) (p : Nat → Bool) (c : Nat) (h : ∀ k, (f k).length ≤ if p k = true then c else 0) : ∀ n, ((List.range n).flatMap f).length ≤ fb_ct p n * c
  | 0 => by simp
  | n + 1 => by
    rw [List.range_succ, List.flatMap_append, List.length_append, fb_ct_succ]
    have ih := len_bm f p c h n
    have h2 : (List.flatMap f [n]).length ≤ if p n = true then c else 0 := by simpa using h n
    by_cases hp : p n = true
    · rw [if_pos hp] at h2
      rw [if_pos hp, Nat.add_mul, Nat.one_mul]
      omega
    · rw [if_neg hp] at h2
      rw [if_neg hp, Nat.add_zero]
      omega
theorem len_nxs (l z m : Nat) : (nxs l z m).length ≤ pop m * pop z := by
  refine len_bm _ (fun h => m.testBit h) _ (fun h => ?_) 13
  by_cases hm : m.testBit h = true
  · rw [if_pos hm]
    refine Nat.le_trans (len_fm _ (fun s => z.testBit (1 + s)) (fun s hs => ?_) 12) ?_
    · by_cases hk : okS l z m h (1 + s) = true
      · exact (okS_sp hk).2.1
      · rw [if_neg hk] at hs
        exact absurd rfl hs
    · have := fb_ct_split (fun s => z.testBit s) 1 12
      show _ ≤ fb_ct (fun s => z.testBit s) 13
      rw [show (13 : Nat) = 1 + 12 from rfl, this]
      omega
  · rw [if_neg hm]
    have h0 := len_fm (fun s => if okS l z m h (1 + s) = true then some (nx m h (1 + s)) else none) (fun _ => false) (fun s hs => by
      by_cases hk : okS l z m h (1 + s) = true
      · exact absurd (okS_sp hk).1 hm
      · rw [if_neg hk] at hs
        exact absurd rfl hs) 12
    refine Nat.le_trans h0 ?_
    exact Nat.le_of_eq (fb_ct_zero.mpr (fun _ _ => rfl))
def mex (p : Nat → Bool) : Nat := fa_first (fun v => !p v) 13
theorem mex_lt (p : Nat → Bool) {u : Nat} (h : u < mex p) : p u = true := by
  have := fa_first_no _ _ u h
  simpa using this
theorem mex_no (p : Nat → Bool) (h : mex p < 13) : p (mex p) = false := by
  have := fa_first_yes _ _ h
  unfold mex
  simpa using this
theorem mex_cong {p q : Nat → Bool} (h : ∀ v, p v = q v) : mex p = mex q := by rw [show p = q from funext h]
/-- where v and all below is told, it is the least one -/
theorem mex_is {p : Nat → Bool} {v : Nat} (hv : v < 13) (h1 : p v = false) (h2 : ∀ u, u < v → p u = true) : mex p = v := by
  rcases Nat.lt_trichotomy (mex p) v with h | h | h
  · have := mex_no p (by omega)
    rw [h2 _ h] at this
    cases this
  · exact h
  · have := mex_lt p h
    rw [h1] at this
    cases this
def vF (l z : Nat) : Nat → Nat → Nat
  | 0, _ => 0
  | F + 1, m => mex (fun v => (nxs l z m).any (fun x => vF l z F x == v))
theorem nxs_lt {l z m x : Nat} (h0 : m.testBit 0 = false) (hx : x ∈ nxs l z m) : x < m ∧ x.testBit 0 = false := by
  obtain ⟨h, s, h1, h2, h3, hk, rfl⟩ := mem_nxs.mp hx
  exact ⟨nx_lt hk (by omega) h0, nx_0 m h s⟩
theorem any_cong {xs : List Nat} {f g : Nat → Bool} (h : ∀ x ∈ xs, f x = g x) : xs.any f = xs.any g := by
  induction xs with
  | nil => rfl
  | cons a xs ih => rw [List.any_cons, List.any_cons, h a List.mem_cons_self, ih (fun x hx => h x (List.mem_cons_of_mem _ hx))]
theorem vF_same (l z : Nat) : ∀ F G m, m.testBit 0 = false → m < F → m < G → vF l z F m = vF l z G m
  | F + 1, G + 1, m, h0, hF, hG => mex_cong fun v => any_cong fun x hx => by
    obtain ⟨h1, h2⟩ := nxs_lt h0 hx
    rw [vF_same l z F G x h2 (by omega) (by omega)]
def val (l z m : Nat) : Nat := vF l z (m + 1) m
theorem val_un (l z m : Nat) : val l z m = mex (fun v => (nxs l z m).any (fun x => vF l z m x == v)) := by
  unfold val
  rw [vF]
theorem val_eq {l z m : Nat} (h0 : m.testBit 0 = false) : val l z m = mex (fun v => (nxs l z m).any (fun x => val l z x == v)) := by
  rw [val_un]
  refine mex_cong fun v => any_cong fun x hx => ?_
  obtain ⟨h1, h2⟩ := nxs_lt h0 hx
  unfold val
  rw [vF_same l z m (x + 1) x h2 h1 (by omega)]
theorem mex_len (xs : List Nat) (f : Nat → Nat) (h : xs.length ≤ 12) : mex (fun v => xs.any (fun x => f x == v)) ≤ 12 := by
  rcases Nat.lt_or_ge 12 (mex (fun v => xs.any (fun x => f x == v))) with q | q
  · have ha : ∀ v, v < 13 → xs.any (fun x => f x == v) = true := fun v hv => mex_lt (fun v => xs.any (fun x => f x == v)) (by omega)
    have hb : ∀ v, v < 13 → xs.findIdx (fun x => f x == v) < xs.length := fun v hv => List.findIdx_lt_length_of_exists (by
      obtain ⟨x, hx, he⟩ := List.any_eq_true.mp (ha v hv)
      exact ⟨x, hx, he⟩)
    have := fb_holes 12 13 (fun v => xs.findIdx (fun x => f x == v)) (fun v hv => Nat.lt_of_lt_of_le (hb v hv) h) (fun i j hij hj e => by
      have h1 := List.findIdx_getElem (p := fun x => f x == i) (w := hb i (by omega))
      have h2 := List.findIdx_getElem (p := fun x => f x == j) (w := hb j hj)
      simp only [beq_iff_eq] at h1 h2
      have e' : xs.findIdx (fun x => f x == i) = xs.findIdx (fun x => f x == j) := e
      simp only [e'] at h1
      omega)
    omega
  · exact q
theorem val_le {l z m : Nat} (h0 : m.testBit 0 = false) (hm : pop m ≤ 3) (hz : pop z ≤ 4) : val l z m ≤ 12 := by
  rw [val_eq h0]
  refine mex_len _ _ (Nat.le_trans (len_nxs l z m) ?_)
  exact Nat.le_trans (Nat.mul_le_mul hm hz) (by decide)

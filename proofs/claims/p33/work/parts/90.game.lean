/-! who can win: values of ladders and steps, when nothing bars a step -/
def freeR (n : Nat) (r : Rs) : Prop := (∀ l, l < n → r.ow l = -1) ∧ r.bn = (-1, -1, -1) ∧ r.tu ≤ 1
theorem bar0 {n l h s : Nat} {r : Rs} (hr : freeR n r) (hl : l < n) (hn : n ≤ 6) : barS r l (nI l) (nI h) (nI s) = 0 := by
  obtain ⟨h1, h2, h3⟩ := hr
  unfold barS
  rw [h1 l hl, h2]
  have e1 : ¬ (-1 : Int32) = 1 - nI r.tu := by
    rcases (show r.tu = 0 ∨ r.tu = 1 by omega) with e | e <;> rw [e] <;> decide
  rw [if_neg e1, if_neg]
  rintro ⟨q, -, -⟩
  have q : nI l = -1 := q
  have h9 : ¬ nI l < 0 := nI_pos (by omega)
  rw [q] at h9
  exact h9 (by decide)
theorem alB_free {g : Gm} {r : Rs} {l h s : Nat} (hg : g.ok) (hr : freeR g.n r) (hl : l < g.n) : alB g r l h s = okS (g.lk l) (g.sz l) (g.co l) h s := by
  unfold alB
  rw [bar0 hr hl hg.1]
  simp
theorem fS_mem {g : Gm} {r : Rs} {l h s : Nat} (hs : s ≤ 12) (ha : alB g r l h s = true) : ∀ k, 12 - s < k → (l, h, s) ∈ fS g r l h k
  | 0, hk => by omega
  | k + 1, hk => by
    rw [fS]
    by_cases e : 12 - s = k
    · have e2 : 12 - k = s := by omega
      rw [e2, if_pos ha]
      exact List.mem_append_left _ (by simp)
    · exact List.mem_append_right _ (fS_mem hs ha k (by omega))
theorem fH_mem {g : Gm} {r : Rs} {l h s : Nat} (hs : s ≤ 12) (hs1 : 1 ≤ s) (h1 : 1 ≤ h) (ha : alB g r l h s = true) : ∀ k, h ≤ k → (l, h, s) ∈ fH g r l k
  | 0, hk => by omega
  | k + 1, hk => by
    rw [fH]
    by_cases e : h = k + 1
    · rw [← e]
      exact List.mem_append_left _ (fS_mem hs ha 12 (by omega))
    · exact List.mem_append_right _ (fH_mem hs hs1 h1 ha k (by omega))
theorem fL_mem {g : Gm} {r : Rs} {l h s : Nat} (hl : l < g.n) (hs : s ≤ 12) (hs1 : 1 ≤ s) (h1 : 1 ≤ h) (h2 : h ≤ g.top l) (ha : alB g r l h s = true) : ∀ k, g.n ≤ l + k → k ≤ g.n → (l, h, s) ∈ fL g r k
  | 0, hk, _ => by omega
  | k + 1, hk, hk2 => by
    rw [fL]
    by_cases e : l = g.n - (k + 1)
    · rw [← e]
      exact List.mem_append_left _ (fH_mem hs hs1 h1 ha _ h2)
    · exact List.mem_append_right _ (fL_mem hl hs hs1 h1 h2 ha k (by omega) (by omega))
theorem chs_mem {g : Gm} {r : Rs} {c : Cho} (h : inC g r c) : c ∈ chs g r := by
  obtain ⟨l, hh, s⟩ := c
  obtain ⟨h1, h2, h3, h4, h5, h6⟩ := h
  exact fL_mem h1 h5 h4 h2 h3 h6 g.n (by omega) (Nat.le_refl _)
theorem inC_of {g : Gm} {r : Rs} {l h s : Nat} (hg : g.ok) (hr : freeR g.n r) (hl : l < g.n) (hk : okS (g.lk l) (g.sz l) (g.co l) h s = true) (s1 : 1 ≤ s) (s2 : s ≤ 12) : inC g r (l, h, s) := by
  obtain ⟨b1, b2, b3, b4, b5, b6, b7, b8, b9, b10⟩ := hg.2 l hl
  obtain ⟨k1, k2, k3, k4, k5⟩ := okS_sp hk
  refine ⟨hl, ?_, ?_, s1, s2, by show alB g r l h s = true; rw [alB_free hg hr hl]; exact hk⟩
  · show 1 ≤ h
    omega
  · show h ≤ g.top l
    apply Decidable.byContradiction
    intro q
    have : (g.co l).testBit h = false := Nat.testBit_lt_two_pow (Nat.lt_of_lt_of_le b8 (Nat.pow_le_pow_right (by decide) (by omega)))
    rw [k1] at this
    cases this
theorem top16 : ∀ s, s < 16 → s ≠ 0 → ∃ k, k < 4 ∧ s.testBit k = true ∧ ∀ j, j < 4 → k < j → s.testBit j = false := by decide
theorem top_bit {s : Nat} (h : s < 16) (h0 : s ≠ 0) : ∃ k, s.testBit k = true ∧ ∀ j, k < j → s.testBit j = false := by
  obtain ⟨k, k1, k2, k3⟩ := top16 s h h0
  refine ⟨k, k2, fun j hj => ?_⟩
  by_cases q : j < 4
  · exact k3 j q hj
  · exact Nat.testBit_lt_two_pow (Nat.lt_of_lt_of_le h (Nat.pow_le_pow_right (n := 2) (i := 4) (by decide) (by omega)))
theorem sumTo_bit {g : Gm} {k : Nat} : ∀ n, (sumTo g n).testBit k = true → ∃ l, l < n ∧ (vNow g l).testBit k = true
  | 0, h => by
    rw [show sumTo g 0 = 0 from rfl, Nat.zero_testBit] at h
    cases h
  | n + 1, h => by
    by_cases q : (vNow g n).testBit k = true
    · exact ⟨n, by omega, q⟩
    · rw [show sumTo g (n + 1) = sumTo g n ^^^ vNow g n from rfl, Nat.testBit_xor, show (vNow g n).testBit k = false by simpa using q, Bool.xor_false] at h
      obtain ⟨l, h1, h2⟩ := sumTo_bit n h
      exact ⟨l, by omega, h2⟩
theorem win_ex {g : Gm} {r : Rs} (hg : g.ok) (hr : freeR g.n r) (hs : sumTo g g.n ≠ 0) : ∃ c, c ∈ chs g r ∧ winB g c = true := by
  obtain ⟨k, k1, k2⟩ := top_bit (sumTo_lt hg g.n (Nat.le_refl _)) hs
  obtain ⟨l, hl, hv⟩ := sumTo_bit g.n k1
  obtain ⟨b1, b2, b3, b4, b5, b6, b7, b8, b9, b10⟩ := hg.2 l hl
  have hlt : vNow g l ^^^ sumTo g g.n < vNow g l := by
    refine lt_tb (i := k) ?_ hv (fun j hj => ?_)
    · rw [Nat.testBit_xor, hv, k1]
      rfl
    · rw [Nat.testBit_xor, k2 j hj, Bool.xor_false]
  have hlt2 := hlt
  unfold vNow at hlt2
  rw [val_eq b9] at hlt2
  have h1 := mex_lt _ hlt2
  obtain ⟨x, hx, hxe⟩ := List.any_eq_true.mp h1
  rw [beq_iff_eq] at hxe
  obtain ⟨h, s, hh, s1, s2, hk, rfl⟩ := mem_nxs.mp hx
  refine ⟨(l, h, s), chs_mem (inC_of hg hr hl hk s1 s2), ?_⟩
  rw [winB_iff]
  show vNow g l ^^^ val (g.lk l) (g.sz l) (nx (g.co l) h s) = sumTo g g.n
  rw [hxe]
  unfold vNow
  rw [← val_eq b9, ← Nat.xor_assoc, Nat.xor_self, Nat.zero_xor]
theorem xor_eq0 {a b : Nat} (h : a ^^^ b = 0) : a = b := by
  have h2 : (a ^^^ b) ^^^ b = 0 ^^^ b := by rw [h]
  rw [Nat.xor_assoc, Nat.xor_self, Nat.xor_zero, Nat.zero_xor] at h2
  exact h2
theorem vB_ne {g : Gm} {r : Rs} {c : Cho} (hg : g.ok) (hc : inC g r c) : vNow g c.1 ≠ vB g c := by
  intro e
  obtain ⟨h1, h2, h3, h4, h5, h6⟩ := hc
  obtain ⟨b1, b2, b3, b4, b5, b6, b7, b8, b9, b10⟩ := hg.2 c.1 h1
  have hk := (alB_ok h6).1
  have hv : vNow g c.1 ≤ 12 := vNow_le hg h1
  have hm : vNow g c.1 = mex (fun v => (nxs (g.lk c.1) (g.sz c.1) (g.co c.1)).any (fun x => val (g.lk c.1) (g.sz c.1) x == v)) := val_eq b9
  have hno := mex_no (fun v => (nxs (g.lk c.1) (g.sz c.1) (g.co c.1)).any (fun x => val (g.lk c.1) (g.sz c.1) x == v)) (by rw [← hm]; omega)
  rw [← hm] at hno
  have hyes : (nxs (g.lk c.1) (g.sz c.1) (g.co c.1)).any (fun x => val (g.lk c.1) (g.sz c.1) x == vNow g c.1) = true :=
    List.any_eq_true.mpr ⟨nx (g.co c.1) c.2.1 c.2.2, mem_nxs.mpr ⟨c.2.1, c.2.2, by have : c.2.1 ≤ g.top c.1 := h3; omega, h4, h5, hk, rfl⟩, by
      rw [beq_iff_eq, e]
      rfl⟩
  have hno : (nxs (g.lk c.1) (g.sz c.1) (g.co c.1)).any (fun x => val (g.lk c.1) (g.sz c.1) x == vNow g c.1) = false := hno
  rw [hyes] at hno
  cases hno
theorem win_no {g : Gm} {r : Rs} {c : Cho} (hg : g.ok) (hc : inC g r c) (hs : sumTo g g.n = 0) : winB g c = false := by
  cases q : winB g c with
  | false => rfl
  | true =>
    rw [winB_iff, hs] at q
    exact absurd (xor_eq0 q) (vB_ne hg hc)
theorem best_some {g : Gm} {r : Rs} (hg : g.ok) (hr : freeR g.n r) (hs : sumTo g g.n ≠ 0) : bestN g r < (chs g r).length := by
  obtain ⟨c, h1, h2⟩ := win_ex hg hr hs
  exact List.findIdx_lt_length_of_exists ⟨c, h1, h2⟩
theorem best_win {g : Gm} {r : Rs} (h : bestN g r < (chs g r).length) : winB g ((chs g r).getD (bestN g r) (0, 0, 0)) = true := by
  rw [List.getD_eq_getElem?_getD, List.getElem?_eq_getElem h]
  exact List.findIdx_getElem (p := winB g) (w := h)
theorem best_none {g : Gm} {r : Rs} (hg : g.ok) (hs : sumTo g g.n = 0) : ¬ bestN g r < (chs g r).length := by
  intro h
  have h1 : winB g (chs g r)[bestN g r] = true := List.findIdx_getElem (p := winB g) (w := h)
  rw [win_no hg (chs_in (List.getElem_mem h)) hs] at h1
  cases h1
theorem bestS_iff {g : Gm} {r : Rs} (hg : g.ok) (hr : freeR g.n r) : bestS g r = -1 ↔ sumTo g g.n = 0 := by
  unfold bestS
  by_cases hs : sumTo g g.n = 0
  · rw [if_neg (best_none hg hs)]
    exact ⟨fun _ => hs, fun _ => rfl⟩
  · have h := best_some hg hr hs
    rw [if_pos h]
    refine ⟨fun q => ?_, fun q => absurd q hs⟩
    have h2 := chs_len hg r
    have h9 : ¬ nI (bestN g r) < 0 := nI_pos (by omega)
    rw [q] at h9
    exact absurd (by decide) h9
theorem sumTo_sco {g : Gm} {l v : Nat} : ∀ k, sumTo (g.sco l v) k = if l < k then sumTo g k ^^^ (vNow g l ^^^ val (g.lk l) (g.sz l) v) else sumTo g k
  | 0 => by rw [if_neg (by omega)]; rfl
  | k + 1 => by
    rw [show sumTo (g.sco l v) (k + 1) = sumTo (g.sco l v) k ^^^ vNow (g.sco l v) k from rfl, sumTo_sco k, show sumTo g (k + 1) = sumTo g k ^^^ vNow g k from rfl]
    have e : vNow (g.sco l v) k = if k = l then val (g.lk k) (g.sz k) v else vNow g k := by
      show val (g.lk k) (g.sz k) (if k = l then v else g.co k) = _
      by_cases q : k = l
      · rw [if_pos q, if_pos q]
      · rw [if_neg q, if_neg q]
        rfl
    rw [e]
    by_cases q : k = l
    · subst q
      rw [if_neg (by omega), if_pos rfl, if_pos (by omega), Nat.xor_assoc, ← Nat.xor_assoc (vNow g k), Nat.xor_self, Nat.zero_xor]
    · rw [if_neg q]
      by_cases q2 : l < k
      · rw [if_pos q2, if_pos (by omega)]
        generalize vNow g l ^^^ val (g.lk l) (g.sz l) v = d
        rw [Nat.xor_assoc, Nat.xor_assoc, Nat.xor_comm d]
      · rw [if_neg q2, if_neg (by omega)]
theorem step_sum {g : Gm} {r : Rs} {c : Cho} (hc : c.1 < g.n) : sumTo (stepP g r c.1 c.2.1 c.2.2).1 g.n = sumTo g g.n ^^^ (vNow g c.1 ^^^ vB g c) := by
  show sumTo (g.sco c.1 (nx (g.co c.1) c.2.1 c.2.2)) g.n = _
  rw [sumTo_sco, if_pos hc]
  rfl
/-! weights: the heights of all coins together -/
def wt (m : Nat) : Nat := fb_sm (fun i => if m.testBit i = true then i else 0) 13
theorem wt_nx {l z m h s : Nat} (hk : okS l z m h s = true) (hs : 0 < s) (hb : h < 13) (_h0 : m.testBit 0 = false) : wt (nx m h s) < wt m := by
  obtain ⟨k1, k2, k3, k4, k5⟩ := okS_sp hk
  have a1 := fb_sm_upd (fun i => if m.testBit i = true then i else 0) 0 (i := h) (n := 13) hb
  have a2 := fb_sm_upd (fun k => if k = h then 0 else (fun i => if m.testBit i = true then i else 0) k) (h - s) (i := h - s) (n := 13) (by omega)
  have e1 : (if m.testBit h = true then h else 0) = h := if_pos k1
  have e2 : (if h - s = h then 0 else if m.testBit (h - s) = true then h - s else 0) = 0 := by
    rw [if_neg (by omega), if_neg (by rw [k5]; decide)]
  simp only [] at a1 a2
  rw [e1] at a1
  rw [e2] at a2
  have le : wt (nx m h s) ≤ fb_sm (fun k => if k = h - s then h - s else if k = h then 0 else if m.testBit k = true then k else 0) 13 := by
    refine fb_sm_le (fun k _ => ?_)
    show (if (nx m h s).testBit k = true then k else 0) ≤ (if k = h - s then h - s else if k = h then 0 else if m.testBit k = true then k else 0)
    by_cases q : (nx m h s).testBit k = true
    · rw [if_pos q]
      unfold nx at q
      rw [tb_mv] at q
      by_cases q1 : k = h - s
      · rw [if_pos q1]
        omega
      · rw [if_neg q1]
        simp [q1] at q
        rw [if_neg q.2.2, if_pos q.2.1]
        exact Nat.le_refl _
    · rw [if_neg q]
      exact Nat.zero_le _
  show wt (nx m h s) < fb_sm (fun i => if m.testBit i = true then i else 0) 13
  omega
theorem wt_ct (q : Nat → Bool) : ∀ n, (∀ i, i < n → q i = true → i ≤ 9) → fb_sm (fun i => if q i = true then i else 0) n ≤ 9 * fb_ct q n
  | 0, _ => Nat.le_refl _
  | n + 1, h => by
    rw [fb_sm_succ, fb_ct_succ]
    have ih := wt_ct q n (fun i hi => h i (by omega))
    by_cases c : q n = true
    · have := h n (by omega) c
      rw [if_pos c, if_pos c]
      omega
    · rw [if_neg c, if_neg c]
      omega
theorem wt_le {m : Nat} (hm : m < 2 ^ 10) (hp : pop m ≤ 3) : wt m ≤ 27 := by
  have h := wt_ct (fun i => m.testBit i) 13 (fun i _ hi => by
    apply Decidable.byContradiction
    intro q
    have : m.testBit i = false := Nat.testBit_lt_two_pow (Nat.lt_of_lt_of_le hm (Nat.pow_le_pow_right (by decide) (by omega)))
    have hi : m.testBit i = true := hi
    rw [this] at hi
    cases hi)
  have hp : fb_ct (fun i => m.testBit i) 13 ≤ 3 := hp
  show fb_sm (fun i => if m.testBit i = true then i else 0) 13 ≤ 27
  have h : fb_sm (fun i => if m.testBit i = true then i else 0) 13 ≤ 9 * fb_ct (fun i => m.testBit i) 13 := h
  omega
def wG (g : Gm) : Nat := fb_sm (fun l => wt (g.co l)) g.n
theorem wG_le {g : Gm} (hg : g.ok) (hn : g.n ≤ 3) (ht : ∀ l, l < g.n → g.top l ≤ 9) : wG g ≤ 81 := by
  have : wG g ≤ g.n * 27 := fb_sm_bound (fun l hl => by
    obtain ⟨b1, b2, b3, b4, b5, b6, b7, b8, b9, b10⟩ := hg.2 l hl
    have := ht l hl
    exact wt_le (Nat.lt_of_lt_of_le b8 (Nat.pow_le_pow_right (by decide) (by omega))) (by omega))
  have h2 : g.n * 27 ≤ 3 * 27 := Nat.mul_le_mul_right _ hn
  omega
theorem step_wG {g : Gm} {r : Rs} {c : Cho} (hg : g.ok) (hc : inC g r c) : wG (stepP g r c.1 c.2.1 c.2.2).1 < wG g := by
  obtain ⟨h1, h2, h3, h4, h5, h6⟩ := hc
  obtain ⟨b1, b2, b3, b4, b5, b6, b7, b8, b9, b10⟩ := hg.2 c.1 h1
  have hk := (alB_ok h6).1
  have h3 : c.2.1 ≤ g.top c.1 := h3
  have hw := wt_nx hk h4 (by omega) b9
  have a1 := fb_sm_upd (fun l => wt (g.co l)) (wt (nx (g.co c.1) c.2.1 c.2.2)) (i := c.1) (n := g.n) h1
  have e : wG (stepP g r c.1 c.2.1 c.2.2).1 = fb_sm (fun k => if k = c.1 then wt (nx (g.co c.1) c.2.1 c.2.2) else wt (g.co k)) g.n := by
    show fb_sm (fun l => wt (if l = c.1 then nx (g.co c.1) c.2.1 c.2.2 else g.co l)) g.n = _
    refine fb_sm_cong (fun k _ => ?_)
    by_cases q : k = c.1
    · rw [if_pos q, if_pos q]
    · rw [if_neg q, if_neg q]
  rw [e]
  have a1 : fb_sm (fun k => if k = c.1 then wt (nx (g.co c.1) c.2.1 c.2.2) else wt (g.co k)) g.n + wt (g.co c.1) = fb_sm (fun l => wt (g.co l)) g.n + wt (nx (g.co c.1) c.2.1 c.2.2) := a1
  show _ < fb_sm (fun l => wt (g.co l)) g.n
  omega
/-! counting steps; the end -/
theorem st_nxs {l z m : Nat} : stN l z m = 0 ↔ nxs l z m = [] := by
  constructor
  · intro h
    apply List.eq_nil_iff_forall_not_mem.mpr
    intro x hx
    obtain ⟨hh, s, h1, s1, s2, hk, -⟩ := mem_nxs.mp hx
    have h2 := fb_sm_zero (f := fun h => fb_ct (fun s => okS l z m h (1 + s)) 12) (n := 13) h hh h1
    have h3 := fb_ct_zero.mp h2 (s - 1) (by omega)
    rw [show 1 + (s - 1) = s by omega, hk] at h3
    cases h3
  · intro h
    have e : ∀ hh, hh < 13 → fb_ct (fun s => okS l z m hh (1 + s)) 12 = 0 := fun hh h1 => fb_ct_zero.mpr (fun s hs => by
      cases q : okS l z m hh (1 + s) with
      | false => rfl
      | true =>
        have : nx m hh (1 + s) ∈ nxs l z m := mem_nxs.mpr ⟨hh, 1 + s, h1, by omega, by omega, q, rfl⟩
        rw [h] at this
        cases this)
    show fb_sm (fun h => fb_ct (fun s => okS l z m h (1 + s)) 12) 13 = 0
    rw [fb_sm_cong (g := fun _ => 0) e, fb_sm_const]
theorem val_end {l z m : Nat} (h0 : m.testBit 0 = false) (h : stN l z m = 0) : val l z m = 0 := by
  rw [val_eq h0, st_nxs.mp h]
  exact mex_is (by decide) rfl (fun u hu => absurd hu (by omega))
theorem ov_all {g : Gm} (h : ovB g = true) : ∀ l, l < g.n → stG g l = 0 := of_decide_eq_true h
theorem over_sum {g : Gm} (hg : g.ok) (h : ovB g = true) : sumTo g g.n = 0 := by
  have key : ∀ k, k ≤ g.n → sumTo g k = 0 := by
    intro k
    induction k with
    | zero => exact fun _ => rfl
    | succ k ih =>
      intro hk
      obtain ⟨b1, b2, b3, b4, b5, b6, b7, b8, b9, b10⟩ := hg.2 k (by omega)
      show sumTo g k ^^^ vNow g k = 0
      rw [ih (by omega), show vNow g k = 0 from val_end b9 (ov_all h k (by omega))]
      rfl
  exact key g.n (Nat.le_refl _)
theorem over_chs {g : Gm} {r : Rs} (hg : g.ok) (h : ovB g = true) : (chs g r).length = 0 := by
  rw [List.length_eq_zero_iff]
  apply List.eq_nil_iff_forall_not_mem.mpr
  intro c hc
  obtain ⟨h1, h2, h3, h4, h5, h6⟩ := chs_in hc
  obtain ⟨b1, b2, b3, b4, b5, b6, b7, b8, b9, b10⟩ := hg.2 c.1 h1
  have hk := (alB_ok h6).1
  have hn := st_nxs.mp (ov_all h c.1 h1)
  have h3 : c.2.1 ≤ g.top c.1 := h3
  have hm : nx (g.co c.1) c.2.1 c.2.2 ∈ nxs (g.lk c.1) (g.sz c.1) (g.co c.1) := mem_nxs.mpr ⟨c.2.1, c.2.2, by omega, h4, h5, hk, rfl⟩
  rw [hn] at hm
  cases hm
theorem nover_chs {g : Gm} {r : Rs} (hg : g.ok) (hr : freeR g.n r) (h : ovB g = false) : (chs g r).length ≠ 0 := by
  intro h0
  have hall : ∀ l, l < g.n → stG g l = 0 := by
    intro l hl
    refine st_nxs.mpr (List.eq_nil_iff_forall_not_mem.mpr (fun x hx => ?_))
    obtain ⟨hh, s, h1, s1, s2, hk, -⟩ := mem_nxs.mp hx
    have hm := chs_mem (inC_of hg hr hl hk s1 s2)
    rw [List.length_eq_zero_iff.mp h0] at hm
    cases hm
  have : ovB g = true := decide_eq_true hall
  rw [h] at this
  cases this
/-- one act of the best play, when steps can be made -/
theorem play_step {g : Gm} {r : Rs} (h : (chs g r).length ≠ 0) : playP g r = stepP g r (plC g r).1 (plC g r).2.1 (plC g r).2.2 := if_neg h
theorem play_facts {g : Gm} {r : Rs} (hg : g.ok) (hr : freeR g.n r) (h : (chs g r).length ≠ 0) : (playP g r).1.n = g.n ∧ (playP g r).1.top = g.top ∧ (sumTo (playP g r).1 g.n = 0 ↔ sumTo g g.n ≠ 0) ∧ freeR g.n (playP g r).2 ∧ (playP g r).2.tu = 1 - r.tu ∧ wG (playP g r).1 < wG g := by
  have hc := plC_in h
  rw [play_step h]
  refine ⟨rfl, rfl, ?_, ⟨fun l hl => ?_, rfl, ?_⟩, rfl, step_wG hg hc⟩
  · rw [step_sum hc.1]
    by_cases hs : sumTo g g.n = 0
    · rw [hs, Nat.zero_xor]
      exact ⟨fun q => absurd (xor_eq0 q) (vB_ne hg hc), fun q => absurd rfl q⟩
    · have hb := best_some hg hr hs
      have hw : winB g (plC g r) = true := by
        unfold plC
        rw [if_pos hb]
        exact best_win hb
      rw [winB_iff.mp hw, Nat.xor_self]
      exact ⟨fun _ => hs, fun _ => rfl⟩
  · show (if r.la l ≤ 1 then -1 else r.ow l) = -1
    rw [hr.1 l hl]
    by_cases q : r.la l ≤ 1
    · rw [if_pos q]
    · rw [if_neg q]
  · show 1 - r.tu ≤ 1
    omega

/-! the model: steps from a set in its order -/
def nS (l z m h : Nat) : Nat → List Nat
  | 0 => []
  | k + 1 => (if okS l z m h (12 - k) = true then [nx m h (12 - k)] else []) ++ nS l z m h k
def nH (l z m t : Nat) : Nat → List Nat
  | 0 => []
  | k + 1 => nS l z m (t - k) 12 ++ nH l z m t k
theorem nS_nil {l z m h : Nat} (hb : m.testBit h = false) : ∀ k, nS l z m h k = []
  | 0 => rfl
  | k + 1 => by
    rw [nS, nS_nil hb k, if_neg (fun c => by rw [(okS_sp c).1] at hb; cases hb)]
    rfl
theorem mem_nS {l z m h x : Nat} : ∀ {k : Nat}, k ≤ 12 → (x ∈ nS l z m h k ↔ ∃ s, 13 - k ≤ s ∧ s ≤ 12 ∧ okS l z m h s = true ∧ x = nx m h s)
  | 0, _ => by
    rw [nS]
    refine ⟨fun h => absurd h (by simp), ?_⟩
    rintro ⟨s, h1, h2, _⟩
    omega
  | k + 1, hk => by
    rw [nS, List.mem_append, mem_nS (by omega)]
    constructor
    · rintro (c | ⟨s, h1, h2, h3, h4⟩)
      · by_cases q : okS l z m h (12 - k) = true
        · rw [if_pos q, List.mem_singleton] at c
          exact ⟨12 - k, by omega, by omega, q, c⟩
        · rw [if_neg q] at c
          cases c
      · exact ⟨s, by omega, h2, h3, h4⟩
    · rintro ⟨s, h1, h2, h3, h4⟩
      by_cases q : s = 12 - k
      · subst q
        left
        rw [if_pos h3, List.mem_singleton]
        exact h4
      · exact Or.inr ⟨s, by omega, h2, h3, h4⟩
theorem mem_nH {l z m t x : Nat} : ∀ {k : Nat}, k ≤ t → (x ∈ nH l z m t k ↔ ∃ h s, t + 1 - k ≤ h ∧ h ≤ t ∧ 1 ≤ s ∧ s ≤ 12 ∧ okS l z m h s = true ∧ x = nx m h s)
  | 0, _ => by
    rw [nH]
    refine ⟨fun h => absurd h (by simp), ?_⟩
    rintro ⟨h, s, h1, h2, _⟩
    omega
  | k + 1, hk => by
    rw [nH, List.mem_append, mem_nH (by omega), mem_nS (by omega)]
    constructor
    · rintro (⟨s, h1, h2, h3, h4⟩ | ⟨h, s, h1, h2, h3⟩)
      · exact ⟨t - k, s, by omega, by omega, by omega, h2, h3, h4⟩
      · exact ⟨h, s, by omega, h2, h3⟩
    · rintro ⟨h, s, h1, h2, h3, h4, h5, h6⟩
      by_cases q : h = t - k
      · subst q
        exact Or.inl ⟨s, by omega, h4, h5, h6⟩
      · exact Or.inr ⟨h, s, by omega, h2, h3, h4, h5, h6⟩
def nA (l z m t : Nat) : List Nat := nH l z m t t
theorem tb_top {m t i : Nat} (hm : m < 2 ^ (t + 1)) (hi : t < i) : m.testBit i = false := Nat.testBit_lt_two_pow (Nat.lt_of_lt_of_le hm (Nat.pow_le_pow_right (by decide) hi))
theorem mem_nA {l z m t x : Nat} (hm : m < 2 ^ (t + 1)) (h0 : m.testBit 0 = false) (ht : t ≤ 12) : x ∈ nA l z m t ↔ x ∈ nxs l z m := by
  unfold nA
  rw [mem_nH (Nat.le_refl _), mem_nxs]
  constructor
  · rintro ⟨h, s, h1, h2, h3, h4, h5, h6⟩
    exact ⟨h, s, by omega, h3, h4, h5, h6⟩
  · rintro ⟨h, s, h1, h3, h4, h5, h6⟩
    have hb := (okS_sp h5).1
    refine ⟨h, s, ?_, ?_, h3, h4, h5, h6⟩
    · rcases Nat.eq_zero_or_pos h with q | q
      · rw [q, h0] at hb
        cases hb
      · omega
    · rcases Nat.lt_or_ge t h with q | q
      · rw [tb_top hm q] at hb
        cases hb
      · exact q
theorem len_nS (l z m h : Nat) : ∀ k, (nS l z m h k).length = fb_ct (fun i => okS l z m h (12 - i)) k
  | 0 => rfl
  | k + 1 => by
    rw [nS, List.length_append, len_nS l z m h k, fb_ct_succ]
    by_cases q : okS l z m h (12 - k) = true
    · rw [if_pos q, if_pos q, List.length_singleton]
      omega
    · rw [if_neg q, if_neg q, List.length_nil]
      omega
theorem len_nS12 {l z m h : Nat} (hz : okS l z m h 0 = false) : (nS l z m h 12).length = fb_ct (fun s => okS l z m h (1 + s)) 12 := by
  have h1 := rev12 (fun s => okS l z m h s)
  have h2 := fb_ct_split (fun s => okS l z m h s) 1 12
  have h3 : fb_ct (fun s => okS l z m h s) 1 = 0 := by
    rw [fb_ct_succ, if_neg (by rw [hz]; decide)]
    rfl
  have h4 : (if okS l z m h 0 = true then 1 else 0) = 0 := if_neg (by rw [hz]; decide)
  rw [len_nS]
  have h5 : fb_ct (fun s => okS l z m h s) (1 + 12) = fb_ct (fun s => okS l z m h s) 13 := rfl
  omega
theorem okS_0 (l z m h : Nat) : okS l z m h 0 = false := by
  cases q : okS l z m h 0
  · rfl
  · obtain ⟨a, b, c, d, e⟩ := okS_sp q
    rw [Nat.sub_zero, a] at e
    cases e
theorem len_nA {l z m t : Nat} (hm : m < 2 ^ (t + 1)) (h0 : m.testBit 0 = false) (ht : t ≤ 12) : (nA l z m t).length = stN l z m := by
  unfold nA stN
  have key : ∀ k, k ≤ t → (nH l z m t k).length + fb_sm (fun h => fb_ct (fun s => okS l z m h (1 + s)) 12) (t + 1 - k) = fb_sm (fun h => fb_ct (fun s => okS l z m h (1 + s)) 12) (t + 1) := by
    intro k
    induction k with
    | zero =>
      intro _
      rw [nH, List.length_nil, Nat.zero_add]
      rfl
    | succ k ih =>
      intro hk
      have ih' := ih (by omega)
      rw [show t + 1 - k = (t + 1 - (k + 1)) + 1 by omega, fb_sm_succ, show t + 1 - (k + 1) = t - k by omega] at ih'
      rw [nH, List.length_append, len_nS12 (okS_0 _ _ _ _), show t + 1 - (k + 1) = t - k by omega]
      omega
  have h1 := key t (Nat.le_refl _)
  have hno : ∀ h, m.testBit h = false → fb_ct (fun s => okS l z m h (1 + s)) 12 = 0 := fun h hb => fb_ct_zero.mpr (fun s hs => by
    show okS l z m h (1 + s) = false
    cases q : okS l z m h (1 + s)
    · rfl
    · rw [(okS_sp q).1] at hb
      cases hb)
  rw [show t + 1 - t = 1 by omega, fb_sm_succ, hno 0 h0] at h1
  have h2 := fb_sm_split (fun h => fb_ct (fun s => okS l z m h (1 + s)) 12) (t + 1) (12 - t)
  rw [show t + 1 + (12 - t) = 13 by omega] at h2
  have h3 : fb_sm (fun k => fb_ct (fun s => okS l z m (t + 1 + k) (1 + s)) 12) (12 - t) = 0 := by
    rw [fb_sm_cong (g := fun _ => 0) (fun k hk => hno _ (tb_top hm (by omega))), fb_sm_const, Nat.mul_zero]
  have h4 : fb_sm (fun h => fb_ct (fun s => okS l z m h (1 + s)) 12) 0 = 0 := rfl
  omega
theorem mxl_mem {f : Nat → Nat} {a b : List Nat} (h : ∀ x, x ∈ a ↔ x ∈ b) : mxl f a = mxl f b := by
  have g : ∀ a b : List Nat, (∀ x, x ∈ a → x ∈ b) → mxl f a ≤ mxl f b := by
    intro a b h
    rcases mxl_ex (f := f) a with q | ⟨x, h1, h2⟩
    · omega
    · rw [h2]
      exact mxl_ge (h x h1)
  exact Nat.le_antisymm (g a b (fun x => (h x).mp)) (g b a (fun x => (h x).mpr))
theorem mxl_push {f : Nat → Nat} {x : Nat} : ∀ (xs : List Nat), mxl f (xs ++ [x]) = max (mxl f xs) (f x)
  | [] => by
    show max (f x) 0 = max 0 (f x)
    exact Nat.max_comm _ _
  | a :: xs => by
    show max (f a) (mxl f (xs ++ [x])) = max (max (f a) (mxl f xs)) (f x)
    rw [mxl_push xs, Nat.max_assoc]
/-! the model's ladders as numbers -/
def LG (w : Wd) (g : Gm) : Prop := gA w 18 0 = nI g.n ∧ ∀ l, l < g.n → gA w 18 (1 + 7 * l + 0) = nI (g.top l) ∧ gA w 18 (1 + 7 * l + 1) = nI (g.cn l) ∧ gA w 18 (1 + 7 * l + 2) = nI (g.co l) ∧ gA w 18 (1 + 7 * l + 3) = nI (g.lk l) ∧ gA w 18 (1 + 7 * l + 4) = nI (g.sz l)
theorem LG.fr {w w' : Wd} {g : Gm} (h : LG w g) (e : ∀ i, gA w' 18 i = gA w 18 i) : LG w' g := ⟨(e 0).trans h.1, fun l hl => by
  obtain ⟨a1, a2, a3, a4, a5⟩ := h.2 l hl
  exact ⟨(e _).trans a1, (e _).trans a2, (e _).trans a3, (e _).trans a4, (e _).trans a5⟩⟩
theorem TD.lg {w : Wd} {g : Gm} {r : Rs} (h : TD w 18 0 g r) : LG w g := by
  obtain ⟨h1, h2, _⟩ := h
  refine ⟨h1, fun l hl => ?_⟩
  obtain ⟨a1, a2, a3, a4, a5, a6, a7⟩ := h2 l hl
  rw [Nat.zero_add] at a1 a2 a3 a4 a5
  exact ⟨a1, a2, a3, a4, a5⟩
theorem bhM_ok {l z m h s : Nat} (h1 : m.testBit h = true) (h2 : z.testBit s = true) : (okS l z m h s = true → bhM l m h s = nI (nx m h s)) ∧ (¬ okS l z m h s = true → bhM l m h s = -1) := by
  unfold okS bhM
  rw [h1, h2]
  refine ⟨fun c => if_pos ?_, fun c => if_neg (fun q => c ?_)⟩
  · simpa [and_assoc] using c
  · simpa [and_assoc] using q
theorem n1_ne {a : Nat} (h : a < 2 ^ 31) : ¬ nI a = -1 := fun c => by
  have := nI_pos' h
  rw [c] at this
  exact absurd this (by decide)
theorem pos_top {g : Gm} (hg : g.ok) {l : Nat} (hl : l < g.n) {m : Nat} (hm : m < 2 ^ (g.top l + 1)) : m < 8192 := by
  obtain ⟨b1, b2, _⟩ := hg.2 l hl
  exact Nat.lt_of_lt_of_le hm (Nat.le_trans (Nat.pow_le_pow_right (by decide) (show g.top l + 1 ≤ 13 by omega)) (by decide))
theorem bits_push {f : Nat → Nat} {P : List Nat} {q X : Nat} (h : ∀ v, q.testBit v = P.any (fun x => f x == v)) : ∀ v, (q ||| 2 ^ f X).testBit v = (P ++ [X]).any (fun x => f x == v) := fun v => by
  rw [Nat.testBit_or, h v, Nat.testBit_two_pow, List.any_append, List.any_cons, List.any_nil, Bool.or_false]
  rfl
set_option maxHeartbeats 4000000 in
set_option maxRecDepth 4000 in
theorem wm_laysOne {w : Wd} {g : Gm} {l m : Nat} {Post : Wd → Prop} (hg : g.ok) (hG : LG w g) (hl : l < g.n) (hm : m < 2 ^ (g.top l + 1)) (h0 : m.testBit 0 = false) (hp : pop m ≤ 3) (hv : ∀ x, x ∈ nxs (g.lk l) (g.sz l) m → gA w 22 x = nI (val (g.lk l) (g.sz l) x) ∧ gA w 23 x = nI (lng (g.lk l) (g.sz l) x)) (h : Post (sA (sA w 22 m (nI (val (g.lk l) (g.sz l) m))) 23 m (nI (lng (g.lk l) (g.sz l) m)))) : wp_X9_laysOne w (nI l) (nI m) Post := by
  obtain ⟨b1, b2, b3, b4, b5, b6, b7, b8, b9, b10⟩ := hg.2 l hl
  obtain ⟨a1, a2, a3, a4, a5⟩ := hG.2 l hl
  have hl6 : l < 6 := Nat.lt_of_lt_of_le hl hg.1
  have hm13 := pos_top hg hl hm
  have hpm : isPos m = true := isPos_of hm13 h0 hp
  have hmem : ∀ x, x ∈ nA (g.lk l) (g.sz l) m (g.top l) ↔ x ∈ nxs (g.lk l) (g.sz l) m := fun x => mem_nA hm h0 b2
  have hv12 := val_le (l := g.lk l) (z := g.sz l) h0 hp b5
  unfold wp_X9_laysOne
  intro J8 J134 J22 h8 h134 h22
  have outer : ∀ k, k ≤ g.top l → ∀ P q mo, P ++ nH (g.lk l) (g.sz l) m (g.top l) k = nA (g.lk l) (g.sz l) m (g.top l) → q < 8192 → (∀ v, q.testBit v = P.any (fun x => val (g.lk l) (g.sz l) x == v)) → mo = mxl (fun x => lng (g.lk l) (g.sz l) x + 1) P → J8 (nI q) (nI mo) (nI (g.top l + 1 - k)) w := by
    intro k
    induction k with
    | zero =>
      intro _ P q mo hP hq hqb hmo
      have hP' : P = nA (g.lk l) (g.sz l) m (g.top l) := by rw [← hP]; simp [nH]
      refine h8 _ _ _ _ (wm_of (k := 0) hl6 (by omega) ?_)
      rw [a1]
      refine ⟨fun _ => ?_, fun c => ?_⟩
      · have e1 : mex (fun v => q.testBit v) = val (g.lk l) (g.sz l) m := by
          rw [val_eq h0]
          refine mex_cong (fun v => ?_)
          rw [hqb v, hP']
          exact any_mem hmem
        have e2 : mo = lng (g.lk l) (g.sz l) m := by
          rw [hmo, lng_eq h0, hP']
          exact mxl_mem hmem
        refine wm_mex (v0 := 0) (J := fun x w => J134 (nI q) (nI mo) x w) (Post := fun x w2 => vp_in (nI m) 8192 ∧ (vp_in (nI m) 8192 ∧ (Post (sA (sA w2 22 (nI m).toNatClampNeg x) 23 (nI m).toNatClampNeg (nI mo))))) hq (fun x w hx => h134 _ _ _ _ hx) (by omega) ?_
        rw [e1, e2, nI_clamp (by omega)]
        exact ⟨pk_in m 8192 hm13, pk_in m 8192 hm13, h⟩
      · simp (disch := omega) only [nI_ltI] at c
        omega
    | succ k ih =>
      intro hk P q mo hP hq hqb hmo
      have ih' := ih (by omega)
      rw [show g.top l + 1 - k = g.top l - k + 1 by omega] at ih'
      rw [show g.top l + 1 - (k + 1) = g.top l - k by omega]
      rw [nH] at hP
      generalize hh : g.top l - k = hi at ih' hP
      have nxt : ∀ P q mo, P ++ nH (g.lk l) (g.sz l) m (g.top l) k = nA (g.lk l) (g.sz l) m (g.top l) → q < 8192 → (∀ v, q.testBit v = P.any (fun x => val (g.lk l) (g.sz l) x == v)) → mo = mxl (fun x => lng (g.lk l) (g.sz l) x + 1) P → ∀ y, y = nI hi + 1 → J8 (nI q) (nI mo) y w := by
        intro P q mo hP hq hqb hmo y e
        subst e
        rw [nI_1]
        exact ih' P q mo hP hq hqb hmo
      have inner : ∀ k', k' ≤ 12 → ∀ P q mo, P ++ (nS (g.lk l) (g.sz l) m hi k' ++ nH (g.lk l) (g.sz l) m (g.top l) k) = nA (g.lk l) (g.sz l) m (g.top l) → q < 8192 → (∀ v, q.testBit v = P.any (fun x => val (g.lk l) (g.sz l) x == v)) → mo = mxl (fun x => lng (g.lk l) (g.sz l) x + 1) P → J22 (nI q) (nI mo) (nI hi) (nI (13 - k')) w := by
        intro k'
        induction k' with
        | zero =>
          intro _ P q mo hP hq hqb hmo
          exact h22 _ _ _ _ _ ⟨fun _ => nxt P q mo (by simpa [nS] using hP) hq hqb hmo, fun c => absurd (by decide) c⟩
        | succ k' ihk =>
          intro hk' P q mo hP hq hqb hmo
          have ihk' := ihk (by omega)
          rw [show 13 - k' = 12 - k' + 1 by omega] at ihk'
          rw [show 13 - (k' + 1) = 12 - k' by omega]
          have hs1 : 1 ≤ 12 - k' := by omega
          have hs2 : 12 - k' ≤ 12 := by omega
          rw [nS] at hP
          generalize hs : 12 - k' = s at ihk' hP hs1 hs2
          refine h22 _ _ _ _ _ ⟨fun c => ?_, fun _ => wh_has (by omega) (by omega) ?_⟩
          · simp (disch := omega) only [fa_lit, nI_ltI] at c
            omega
          rw [bI_0]
          refine ⟨fun c => ?_, fun c => ?_⟩
          · refine nxt P q mo ?_ hq hqb hmo
            rw [nS_nil c, if_neg (fun q => by rw [(okS_sp q).1] at c; cases c)] at hP
            exact hP
          · have hbit : m.testBit hi = true := by simpa using c
            refine wm_of (k := 4) hl6 (by omega) ?_
            rw [a5]
            refine wh_has (by omega) (by omega) ?_
            rw [bI_0]
            have skip : ¬ okS (g.lk l) (g.sz l) m hi s = true → ∀ y, y = nI s + 1 → J22 (nI q) (nI mo) (nI hi) y w := by
              intro hn y e
              subst e
              rw [nI_1]
              rw [if_neg hn] at hP
              exact ihk' P q mo hP hq hqb hmo
            refine ⟨fun c2 => skip (fun q => by rw [(okS_sp q).2.1] at c2; cases c2), fun c2 => ?_⟩
            have hzb : (g.sz l).testBit s = true := by simpa using c2
            refine wm_behind hl6 a4 b6 b7 hm13 h0 (by omega) ⟨hs1, by omega⟩ hbit ?_
            obtain ⟨bo, bn⟩ := bhM_ok (l := g.lk l) (z := g.sz l) (m := m) (h := hi) (s := s) hbit hzb
            by_cases hok : okS (g.lk l) (g.sz l) m hi s = true
            · rw [bo hok]
              have hx : nx m hi s ∈ nxs (g.lk l) (g.sz l) m := mem_nxs.mpr ⟨hi, s, by omega, hs1, hs2, hok, rfl⟩
              obtain ⟨p1, p2, p3⟩ := nxs_pos hpm hx
              obtain ⟨x1, x2, x3⟩ := isPos_sp p1
              obtain ⟨v1, v2⟩ := hv _ hx
              have hvl := val_le (l := g.lk l) (z := g.sz l) x2 x3 b5
              have hgl := lng_lt (l := g.lk l) (z := g.sz l) p1
              rw [if_pos hok] at hP
              generalize hX : nx m hi s = X at hx p1 p2 p3 x1 x2 x3 v1 v2 hvl hgl hP
              have hmo2 : mo < 300 := by
                rcases mxl_ex (f := fun x => lng (g.lk l) (g.sz l) x + 1) P with e | ⟨u, e1, e2⟩
                · omega
                · have hu : u ∈ nxs (g.lk l) (g.sz l) m := by
                    rw [← hmem, ← hP]
                    exact List.mem_append_left _ e1
                  have := lng_lt (l := g.lk l) (z := g.sz l) (nxs_pos hpm hu).1
                  rw [hmo, e2]
                  show lng (g.lk l) (g.sz l) u + 1 < 300
                  omega
              refine ⟨fun c3 => absurd c3 (n1_ne (by omega)), fun _ => ⟨pk_in X 8192 x1, fun y5 e5 => ⟨pk_in X 8192 x1, ?_⟩⟩⟩
              rw [nI_clamp (by omega)] at e5 ⊢
              rw [v1, nI_shl1 (by omega), fa_or] at e5
              subst e5
              rw [v2, nI_1]
              have hq' : (q ||| 2 ^ val (g.lk l) (g.sz l) X) < 8192 := lt13 (fun j hj => by
                rw [Nat.testBit_or, tb_big hq hj, Nat.testBit_two_pow, decide_eq_false (by omega)]
                rfl)
              have hqb' := bits_push (f := fun x => val (g.lk l) (g.sz l) x) (X := X) hqb
              have hmo' : max mo (lng (g.lk l) (g.sz l) X + 1) = mxl (fun x => lng (g.lk l) (g.sz l) x + 1) (P ++ [X]) := by rw [mxl_push, hmo]
              have fin := ihk' (P ++ [X]) _ _ (by rw [← hP]; simp) hq' hqb' hmo'
              refine ⟨fun c3 y6 e6 => ?_, fun c3 => ⟨pk_in X 8192 x1, fun y7 e7 y8 e8 => ?_⟩⟩
              · simp (disch := omega) only [nI_leI] at c3
                subst e6
                rw [nI_1]
                rw [Nat.max_eq_left c3] at fin
                exact fin
              · simp (disch := omega) only [nI_leI] at c3
                subst e7 e8
                rw [nI_1]
                rw [Nat.max_eq_right (by omega)] at fin
                exact fin
            · rw [bn hok]
              exact ⟨fun _ => skip hok, fun c3 => absurd rfl c3⟩
      refine h8 _ _ _ _ (wm_of (k := 0) hl6 (by omega) ?_)
      rw [a1]
      refine ⟨fun c => ?_, fun _ => inner 12 (by omega) P q mo hP hq hqb hmo⟩
      simp (disch := omega) only [nI_ltI] at c
      omega
  have := outer (g.top l) (Nat.le_refl _) [] 0 0 (by simp [nA]) (by omega) (fun v => by simp) rfl
  rw [show g.top l + 1 - g.top l = 1 by omega] at this
  exact this

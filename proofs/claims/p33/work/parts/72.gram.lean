/-! the grammar, as both programs read it -/
def numB (t : Tk) (b : Bool) : Except Nat Nat := if t.kd = 3 then (if b = true then .ok t.nm else .error (8 * t.st + 2)) else .error (8 * t.st + 1)
def numE (t : Tk) (lo hi : Nat) : Except Nat Nat := numB t (decide (lo ≤ t.nm ∧ t.nm ≤ hi))
def setF (buf : Nat → Int32) (lim hi most : Nat) : Nat → Nat → Nat → Tk → Except Nat (Nat × Tk)
  | 0, _, _, _ => .error 0
  | k + 1, bits, n, t =>
    if n = 0 ∨ t.kd = 3 then
      match numE t 1 hi with
      | .error e => .error e
      | .ok v => if bits.testBit v = true then .error (8 * t.st + 3) else if n = most then .error (8 * t.st + 4) else setF buf lim hi most k (bits ||| 2 ^ v) (n + 1) (tokN buf lim t.en)
    else .ok (bits, t)
abbrev Dr : Type := Gm × (Nat → Nat) × Nat × Bool × Bool
def Dr.g (D : Dr) : Gm := D.1
def Dr.tk (D : Dr) : Nat → Nat := D.2.1
def Dr.fi (D : Dr) : Nat := D.2.2.1
def Dr.ht (D : Dr) : Bool := D.2.2.2.1
def Dr.hf (D : Dr) : Bool := D.2.2.2.2
def Gm.add (g : Gm) (top co sz : Nat) : Gm := (g.n + 1, fun l => if l = g.n then top else g.top l, fun l => if l = g.n then pop co else g.cn l, fun l => if l = g.n then sz else g.sz l, fun l => if l = g.n then co else g.co l, fun l => if l = g.n then 0 else g.lk l)
def isW (buf : Nat → Int32) (i : Nat) (t : Tk) : Bool := decide (t.kd = 2 ∧ t.en - t.st = strLen.getD i 0 ∧ ∀ j, j < strLen.getD i 0 → buf (t.st + j) = (strBy.getD i []).getD j 0 &&& 255)
def ladE (buf : Nat → Int32) (lim : Nat) (t : Tk) (D : Dr) : Except Nat (Tk × Dr) :=
  if 6 ≤ D.g.n then .error (8 * t.st + 4)
  else match numE (tokN buf lim t.en) 1 12 with
    | .error e => .error e
    | .ok top => match setF buf lim top 3 5 0 0 (tokN buf lim (tokN buf lim t.en).en) with
      | .error e => .error e
      | .ok (co, t3) => if isW buf 2 t3 = true then
          match setF buf lim 12 4 6 0 0 (tokN buf lim t3.en) with
          | .error e => .error e
          | .ok (sz, t5) => .ok (t5, D.g.add top co sz, D.2)
        else .ok (t3, D.g.add top co 14, D.2)
def lokE (buf : Nat → Int32) (lim : Nat) (t : Tk) (D : Dr) : Except Nat (Tk × Dr) :=
  match numB (tokN buf lim t.en) (decide ((tokN buf lim t.en).nm < D.g.n)) with
  | .error e => .error e
  | .ok l => match numE (tokN buf lim (tokN buf lim t.en).en) 1 (D.g.top l) with
    | .error e => .error e
    | .ok h => if (D.g.lk l).testBit h = true then .error (8 * (tokN buf lim (tokN buf lim t.en).en).st + 3) else .ok (tokN buf lim (tokN buf lim (tokN buf lim t.en).en).en, D.g.slk l (D.g.lk l ||| 2 ^ h), D.2)
def tkF (buf : Nat → Int32) (lim : Nat) : Nat → Nat → Tk → (Nat → Nat) → Except Nat (Tk × (Nat → Nat))
  | 0, _, t, f => .ok (t, f)
  | m + 1, k, t, f => match numE t 0 9 with
    | .error e => .error e
    | .ok v => tkF buf lim m (k + 1) (tokN buf lim t.en) (fun i => if i = k then v else f i)
def tokE (buf : Nat → Int32) (lim : Nat) (t : Tk) (D : Dr) : Except Nat (Tk × Dr) :=
  if D.ht = true then .error (8 * t.st + 3)
  else match tkF buf lim 3 0 (tokN buf lim t.en) D.tk with
    | .error e => .error e
    | .ok (t', f) => .ok (t', D.g, f, D.fi, true, D.hf)
def firE (buf : Nat → Int32) (lim : Nat) (t : Tk) (D : Dr) : Except Nat (Tk × Dr) :=
  if D.hf = true then .error (8 * t.st + 3)
  else match numE (tokN buf lim t.en) 0 1 with
    | .error e => .error e
    | .ok v => .ok (tokN buf lim (tokN buf lim t.en).en, D.g, D.tk, v, D.ht, true)
def semE (buf : Nat → Int32) (lim : Nat) (x : Except Nat (Tk × Dr)) : Except Nat (Tk × Dr) := match x with
  | .error e => .error e
  | .ok (t, D) => if t.kd = 4 then .ok (tokN buf lim t.en, D) else .error (8 * t.st + 1)
def staE (buf : Nat → Int32) (lim : Nat) (t : Tk) (D : Dr) : Except Nat (Tk × Dr) :=
  if isW buf 1 t = true then semE buf lim (ladE buf lim t D)
  else if isW buf 3 t = true then semE buf lim (lokE buf lim t D)
  else if isW buf 4 t = true then semE buf lim (tokE buf lim t D)
  else if isW buf 5 t = true then semE buf lim (firE buf lim t D)
  else .error (8 * t.st + 1)
def gamF (buf : Nat → Int32) (lim : Nat) : Nat → Tk → Dr → Except Nat Dr
  | 0, _, _ => .error 0
  | k + 1, t, D => if t.kd = 0 then .ok D else match staE buf lim t D with
    | .error e => .error e
    | .ok (t', D') => gamF buf lim k t' D'
def D0 : Dr := ((0, fun _ => 0, fun _ => 0, fun _ => 0, fun _ => 0, fun _ => 0), fun _ => 1, 0, false, false)
def gamE (buf : Nat → Int32) (lim : Nat) : Except Nat Dr := gamF buf lim 402 (tokN buf lim 0) D0
/-! what a token and a draft keep -/
def TkO (lim : Nat) (t : Tk) : Prop := t.st ≤ t.en ∧ t.en ≤ lim ∧ t.kd ≤ 4 ∧ (t.kd ≠ 0 → t.st < t.en) ∧ t.nm ≤ 99
theorem TkO_n {buf : Nat → Int32} {lim a : Nat} (ha : a ≤ lim) : TkO lim (tokN buf lim a) ∧ a ≤ (tokN buf lim a).st := by
  obtain ⟨h1, h2, h3, h4, h5, h6⟩ := tokN_sp (buf := buf) ha
  exact ⟨⟨h2, h3, h4, h5, h6⟩, h1⟩
def DOK (D : Dr) : Prop := D.g.ok ∧ (∀ k, k < 3 → D.tk k ≤ 9) ∧ D.fi ≤ 1
theorem numB_ok {t : Tk} {b : Bool} {v : Nat} (h : numB t b = .ok v) : t.kd = 3 ∧ b = true ∧ v = t.nm := by
  unfold numB at h
  by_cases q : t.kd = 3
  · rw [if_pos q] at h
    by_cases q2 : b = true
    · rw [if_pos q2] at h
      cases h
      exact ⟨q, q2, rfl⟩
    · rw [if_neg q2] at h
      cases h
  · rw [if_neg q] at h
    cases h
theorem numE_ok {t : Tk} {lo hi v : Nat} (h : numE t lo hi = .ok v) : t.kd = 3 ∧ lo ≤ v ∧ v ≤ hi ∧ v = t.nm := by
  obtain ⟨h1, h2, h3⟩ := numB_ok h
  rw [decide_eq_true_eq] at h2
  subst h3
  exact ⟨h1, h2.1, h2.2, rfl⟩
theorem pop_add {m v : Nat} (hv : v < 13) (h : m.testBit v = false) : pop (m ||| 2 ^ v) = pop m + 1 := by
  unfold pop
  have a1 : fb_ct (fun k => if k = v then true else m.testBit k) 13 + (if m.testBit v = true then 1 else 0) = fb_ct (fun i => m.testBit i) 13 + (if true = true then 1 else 0) := fb_ct_upd (fun i => m.testBit i) true hv
  rw [h, if_neg (by decide), if_pos rfl, Nat.add_zero] at a1
  rw [← a1]
  refine fb_ct_cong (fun k _ => ?_)
  show (m ||| 2 ^ v).testBit k = if k = v then true else m.testBit k
  rw [fb_bit_set]
  by_cases q : k = v
  · rw [if_pos q, decide_eq_true q, Bool.or_true]
  · rw [if_neg q, decide_eq_false q, Bool.or_false]
theorem setF_ok {buf : Nat → Int32} {lim hi most : Nat} (hhi : hi ≤ 12) : ∀ (k bits n : Nat) (t : Tk) (b' : Nat) (t' : Tk), setF buf lim hi most k bits n t = .ok (b', t') → TkO lim t → bits < 2 ^ (hi + 1) → bits.testBit 0 = false → pop bits = n → n ≤ most → TkO lim t' ∧ t.st ≤ t'.st ∧ b' < 2 ^ (hi + 1) ∧ b'.testBit 0 = false ∧ pop b' ≤ most
  | 0, _, _, _, _, _, h, _, _, _, _, _ => by
    unfold setF at h
    cases h
  | k + 1, bits, n, t, b', t', h, ht, h1, h2, h3, h4 => by
    unfold setF at h
    by_cases q : n = 0 ∨ t.kd = 3
    · rw [if_pos q] at h
      cases hn : numE t 1 hi with
      | error e => rw [hn] at h; cases h
      | ok v =>
        rw [hn] at h
        simp only at h
        obtain ⟨v1, v2, v3, v4⟩ := numE_ok hn
        by_cases q2 : bits.testBit v = true
        · rw [if_pos q2] at h; cases h
        · rw [if_neg q2] at h
          by_cases q3 : n = most
          · rw [if_pos q3] at h; cases h
          · rw [if_neg q3] at h
            obtain ⟨g1, g2⟩ := TkO_n (buf := buf) ht.2.1
            have q2' : bits.testBit v = false := by simpa using q2
            have hb : (bits ||| 2 ^ v) < 2 ^ (hi + 1) := Nat.or_lt_two_pow h1 (Nat.pow_lt_pow_right (by omega) (by omega))
            have hb0 : (bits ||| 2 ^ v).testBit 0 = false := by
              rw [fb_bit_set, h2, decide_eq_false (by omega)]
              rfl
            obtain ⟨r1, r2, r3, r4, r5⟩ := setF_ok hhi k _ _ _ _ _ h g1 hb hb0 (by rw [pop_add (by omega) q2', h3]) (by omega)
            exact ⟨r1, by have := ht.1; omega, r3, r4, r5⟩
    · rw [if_neg q] at h
      cases h
      exact ⟨ht, Nat.le_refl _, h1, h2, by omega⟩
theorem pop_0 : pop 0 = 0 := by decide
theorem Gm.ok.add_ok {g : Gm} (hg : g.ok) (hn : g.n < 6) {top co sz : Nat} (t1 : 1 ≤ top) (t2 : top ≤ 12) (c1 : co < 2 ^ (top + 1)) (c2 : co.testBit 0 = false) (c3 : pop co ≤ 3) (s1 : sz < 8192) (s2 : pop sz ≤ 4) : (g.add top co sz).ok := by
  refine ⟨?_, fun l hl => ?_⟩
  · show g.n + 1 ≤ 6
    omega
  · have hl : l < g.n + 1 := hl
    show 1 ≤ (if l = g.n then top else g.top l) ∧ (if l = g.n then top else g.top l) ≤ 12 ∧ (if l = g.n then pop co else g.cn l) ≤ 3 ∧ (if l = g.n then sz else g.sz l) < 8192 ∧ pop (if l = g.n then sz else g.sz l) ≤ 4 ∧ (if l = g.n then 0 else g.lk l) < 8192 ∧ (if l = g.n then 0 else g.lk l).testBit 0 = false ∧ (if l = g.n then co else g.co l) < 2 ^ ((if l = g.n then top else g.top l) + 1) ∧ (if l = g.n then co else g.co l).testBit 0 = false ∧ pop (if l = g.n then co else g.co l) ≤ (if l = g.n then pop co else g.cn l)
    by_cases q : l = g.n
    · simp only [if_pos q]
      exact ⟨t1, t2, c3, s1, s2, by omega, Nat.zero_testBit 0, c1, c2, Nat.le_refl _⟩
    · simp only [if_neg q]
      exact hg.2 l (by omega)
theorem tkF_ok {buf : Nat → Int32} {lim : Nat} : ∀ (m k : Nat) (t : Tk) (f : Nat → Nat) (t' : Tk) (f' : Nat → Nat), tkF buf lim m k t f = .ok (t', f') → TkO lim t → (∀ i, i < 3 → f i ≤ 9) → TkO lim t' ∧ t.st ≤ t'.st ∧ ∀ i, i < 3 → f' i ≤ 9
  | 0, _, _, _, _, _, h, ht, hf => by
    unfold tkF at h
    cases h
    exact ⟨ht, Nat.le_refl _, hf⟩
  | m + 1, k, t, f, t', f', h, ht, hf => by
    unfold tkF at h
    cases hn : numE t 0 9 with
    | error e => rw [hn] at h; cases h
    | ok v =>
      rw [hn] at h
      simp only at h
      obtain ⟨v1, v2, v3, v4⟩ := numE_ok hn
      obtain ⟨g1, g2⟩ := TkO_n (buf := buf) ht.2.1
      obtain ⟨r1, r2, r3⟩ := tkF_ok m (k + 1) _ _ _ _ h g1 (fun i hi => by
        show (if i = k then v else f i) ≤ 9
        by_cases q : i = k
        · rw [if_pos q]; exact v3
        · rw [if_neg q]; exact hf i hi)
      exact ⟨r1, by have := ht.1; omega, r3⟩
theorem ladE_ok {buf : Nat → Int32} {lim : Nat} {t t' : Tk} {D D' : Dr} (h : ladE buf lim t D = .ok (t', D')) (ht : TkO lim t) (hD : DOK D) : TkO lim t' ∧ t.en ≤ t'.st ∧ DOK D' := by
  unfold ladE at h
  by_cases q : 6 ≤ D.g.n
  · rw [if_pos q] at h; cases h
  rw [if_neg q] at h
  obtain ⟨g1, g2⟩ := TkO_n (buf := buf) ht.2.1
  obtain ⟨g3, g4⟩ := TkO_n (buf := buf) g1.2.1
  cases hn : numE (tokN buf lim t.en) 1 12 with
  | error e => rw [hn] at h; cases h
  | ok top =>
    rw [hn] at h
    simp only at h
    obtain ⟨v1, v2, v3, v4⟩ := numE_ok hn
    cases hs : setF buf lim top 3 5 0 0 (tokN buf lim (tokN buf lim t.en).en) with
    | error e => rw [hs] at h; cases h
    | ok x =>
      obtain ⟨co, t3⟩ := x
      rw [hs] at h
      simp only at h
      obtain ⟨s1, s2, s3, s4, s5⟩ := setF_ok v3 _ _ _ _ _ _ hs g3 (Nat.two_pow_pos _) (Nat.zero_testBit 0) pop_0 (by omega)
      have e1 := g1.1
      by_cases q2 : isW buf 2 t3 = true
      · rw [if_pos q2] at h
        obtain ⟨g5, g6⟩ := TkO_n (buf := buf) s1.2.1
        cases hz : setF buf lim 12 4 6 0 0 (tokN buf lim t3.en) with
        | error e => rw [hz] at h; cases h
        | ok y =>
          obtain ⟨sz, t5⟩ := y
          rw [hz] at h
          cases h
          obtain ⟨z1, z2, z3, z4, z5⟩ := setF_ok (by omega) _ _ _ _ _ _ hz g5 (Nat.two_pow_pos _) (Nat.zero_testBit 0) pop_0 (by omega)
          have := s1.1
          exact ⟨z1, by omega, hD.1.add_ok (by omega) v2 v3 s3 s4 s5 z3 z5, hD.2⟩
      · rw [if_neg q2] at h
        cases h
        exact ⟨s1, by omega, hD.1.add_ok (by omega) v2 v3 s3 s4 s5 (by decide) (by decide), hD.2⟩
theorem lokE_ok {buf : Nat → Int32} {lim : Nat} {t t' : Tk} {D D' : Dr} (h : lokE buf lim t D = .ok (t', D')) (ht : TkO lim t) (hD : DOK D) : TkO lim t' ∧ t.en ≤ t'.st ∧ DOK D' := by
  unfold lokE at h
  obtain ⟨g1, g2⟩ := TkO_n (buf := buf) ht.2.1
  obtain ⟨g3, g4⟩ := TkO_n (buf := buf) g1.2.1
  obtain ⟨g5, g6⟩ := TkO_n (buf := buf) g3.2.1
  cases hn : numB (tokN buf lim t.en) (decide ((tokN buf lim t.en).nm < D.g.n)) with
  | error e => rw [hn] at h; cases h
  | ok l =>
    rw [hn] at h
    simp only at h
    obtain ⟨v1, v2, v3⟩ := numB_ok hn
    rw [decide_eq_true_eq, ← v3] at v2
    cases hs : numE (tokN buf lim (tokN buf lim t.en).en) 1 (D.g.top l) with
    | error e => rw [hs] at h; cases h
    | ok hh =>
      rw [hs] at h
      simp only at h
      obtain ⟨w1, w2, w3, w4⟩ := numE_ok hs
      obtain ⟨b1, b2, b3, b4, b5, b6, b7, b8, b9, b10⟩ := hD.1.2 l v2
      by_cases q : (D.g.lk l).testBit hh = true
      · rw [if_pos q] at h; cases h
      · rw [if_neg q] at h
        cases h
        have e1 := g1.1
        have e2 := g3.1
        refine ⟨g5, by omega, hD.1.slk (lt13 (fun j hj => ?_)) ?_, hD.2⟩
        · rw [Nat.testBit_or, tb_big b6 hj, Nat.testBit_two_pow, decide_eq_false (by omega)]
          rfl
        · rw [Nat.testBit_or, b7, Nat.testBit_two_pow, decide_eq_false (by omega)]
          rfl
theorem tokE_ok {buf : Nat → Int32} {lim : Nat} {t t' : Tk} {D D' : Dr} (h : tokE buf lim t D = .ok (t', D')) (ht : TkO lim t) (hD : DOK D) : TkO lim t' ∧ t.en ≤ t'.st ∧ DOK D' := by
  unfold tokE at h
  by_cases q : D.ht = true
  · rw [if_pos q] at h; cases h
  rw [if_neg q] at h
  obtain ⟨g1, g2⟩ := TkO_n (buf := buf) ht.2.1
  cases hs : tkF buf lim 3 0 (tokN buf lim t.en) D.tk with
  | error e => rw [hs] at h; cases h
  | ok x =>
    obtain ⟨t3, f⟩ := x
    rw [hs] at h
    cases h
    obtain ⟨r1, r2, r3⟩ := tkF_ok _ _ _ _ _ _ hs g1 hD.2.1
    exact ⟨r1, by omega, hD.1, r3, hD.2.2⟩
theorem firE_ok {buf : Nat → Int32} {lim : Nat} {t t' : Tk} {D D' : Dr} (h : firE buf lim t D = .ok (t', D')) (ht : TkO lim t) (hD : DOK D) : TkO lim t' ∧ t.en ≤ t'.st ∧ DOK D' := by
  unfold firE at h
  by_cases q : D.hf = true
  · rw [if_pos q] at h; cases h
  rw [if_neg q] at h
  obtain ⟨g1, g2⟩ := TkO_n (buf := buf) ht.2.1
  obtain ⟨g3, g4⟩ := TkO_n (buf := buf) g1.2.1
  cases hs : numE (tokN buf lim t.en) 0 1 with
  | error e => rw [hs] at h; cases h
  | ok v =>
    rw [hs] at h
    cases h
    obtain ⟨w1, w2, w3, w4⟩ := numE_ok hs
    have := g1.1
    exact ⟨g3, by omega, hD.1, hD.2.1, w3⟩
theorem semE_ok {buf : Nat → Int32} {lim : Nat} {t t' : Tk} {x : Except Nat (Tk × Dr)} {D' : Dr} (h : semE buf lim x = .ok (t', D')) (hx : ∀ t2 D2, x = .ok (t2, D2) → TkO lim t2 ∧ t.en ≤ t2.st ∧ DOK D2) : TkO lim t' ∧ t.en ≤ t'.st ∧ DOK D' := by
  cases hs : x with
  | error e => rw [hs] at h; unfold semE at h; cases h
  | ok y =>
    obtain ⟨t2, D2⟩ := y
    obtain ⟨r1, r2, r3⟩ := hx t2 D2 hs
    rw [hs] at h
    unfold semE at h
    simp only at h
    by_cases q : t2.kd = 4
    · rw [if_pos q] at h
      cases h
      obtain ⟨g1, g2⟩ := TkO_n (buf := buf) r1.2.1
      have := r1.1
      exact ⟨g1, by omega, r3⟩
    · rw [if_neg q] at h; cases h
theorem staE_ok {buf : Nat → Int32} {lim : Nat} {t t' : Tk} {D D' : Dr} (h : staE buf lim t D = .ok (t', D')) (ht : TkO lim t) (hD : DOK D) : TkO lim t' ∧ t.en ≤ t'.st ∧ DOK D' := by
  unfold staE at h
  by_cases q1 : isW buf 1 t = true
  · rw [if_pos q1] at h
    exact semE_ok h (fun t2 D2 e => ladE_ok e ht hD)
  rw [if_neg q1] at h
  by_cases q2 : isW buf 3 t = true
  · rw [if_pos q2] at h
    exact semE_ok h (fun t2 D2 e => lokE_ok e ht hD)
  rw [if_neg q2] at h
  by_cases q3 : isW buf 4 t = true
  · rw [if_pos q3] at h
    exact semE_ok h (fun t2 D2 e => tokE_ok e ht hD)
  rw [if_neg q3] at h
  by_cases q4 : isW buf 5 t = true
  · rw [if_pos q4] at h
    exact semE_ok h (fun t2 D2 e => firE_ok e ht hD)
  rw [if_neg q4] at h
  cases h
theorem gamF_ok {buf : Nat → Int32} {lim : Nat} : ∀ (k : Nat) (t : Tk) (D D' : Dr), gamF buf lim k t D = .ok D' → TkO lim t → DOK D → DOK D'
  | 0, _, _, _, h, _, _ => by unfold gamF at h; cases h
  | k + 1, t, D, D', h, ht, hD => by
    unfold gamF at h
    by_cases q : t.kd = 0
    · rw [if_pos q] at h
      cases h
      exact hD
    · rw [if_neg q] at h
      cases hs : staE buf lim t D with
      | error e => rw [hs] at h; cases h
      | ok x =>
        obtain ⟨t2, D2⟩ := x
        rw [hs] at h
        obtain ⟨r1, r2, r3⟩ := staE_ok hs ht hD
        exact gamF_ok k t2 D2 D' h r1 r3
theorem D0_ok : DOK D0 := ⟨⟨Nat.zero_le _, fun l hl => absurd hl (Nat.not_lt_zero l)⟩, fun _ _ => (by decide : 1 ≤ 9), Nat.zero_le _⟩
theorem gamE_ok {buf : Nat → Int32} {lim : Nat} {D : Dr} (h : gamE buf lim = .ok D) : DOK D := gamF_ok 402 _ _ _ h (TkO_n (Nat.zero_le _)).1 D0_ok

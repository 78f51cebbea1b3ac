/-! one statement of the game's text -/
theorem let_ok : (∀ c, c ∈ strN 1 → 97 ≤ c ∧ c ≤ 122) ∧ (∀ c, c ∈ strN 2 → 97 ≤ c ∧ c ≤ 122) ∧ (∀ c, c ∈ strN 3 → 97 ≤ c ∧ c ≤ 122) ∧ (∀ c, c ∈ strN 4 → 97 ≤ c ∧ c ≤ 122) ∧ ∀ c, c ∈ strN 5 → 97 ≤ c ∧ c ≤ 122 := by decide +kernel
theorem len_1 : (strN 1).length = 6 := by decide
theorem len_2 : (strN 2).length = 5 := by decide
theorem len_3 : (strN 3).length = 4 := by decide
theorem len_4 : (strN 4).length = 6 := by decide
theorem len_5 : (strN 5).length = 5 := by decide
def stT : List Nat → List Nat
  | [] => []
  | s :: ss => 32 :: (strN 2 ++ numsT (s :: ss))
def ladT (top : Nat) (cs ss : List Nat) : List Nat := strN 1 ++ (numsT [top] ++ (numsT cs ++ (stT ss ++ [59])))
theorem nume {lo hi v x y : Nat} (h1 : lo ≤ v) (h2 : v ≤ hi) : numE (x, y, 3, v) lo hi = .ok v := by
  unfold numE numB
  rw [if_pos (show Tk.kd (x, y, 3, v) = 3 from rfl), if_pos (decide_eq_true ⟨h1, h2⟩)]
  rfl
theorem sem_ok {buf : Nat → Int32} {lim p : Nat} {D : Dr} (h : buf p = nI 59) (hl : p < lim) : semE buf lim (.ok (tokN buf lim p, D)) = .ok (tokN buf lim (p + 1), D) := by
  rw [tk_semi h hl]
  rfl
theorem sta_lad {buf : Nat → Int32} {lim a top : Nat} {cs ss : List Nat} {D : Dr} (hat : At buf a (ladT top cs ss)) (hl : a + (ladT top cs ss).length ≤ lim) (hn : D.g.n < 6) (ht1 : 1 ≤ top) (ht2 : top < 10) (hc0 : cs ≠ []) (hc3 : cs.length ≤ 3) (hc : ∀ c, c ∈ cs → 1 ≤ c ∧ c ≤ top) (hcn : cs.Nodup) (hs4 : ss.length ≤ 4) (hs : ∀ c, c ∈ ss → 1 ≤ c ∧ c < 10) (hsn : ss.Nodup) :
    (tokN buf lim a).kd ≠ 0 ∧ ∃ co sz, staE buf lim (tokN buf lim a) D = .ok (tokN buf lim (a + (ladT top cs ss).length), D.g.add top co sz, D.2) := by
  unfold ladT at hat hl ⊢
  rw [List.length_append, List.length_append, List.length_append, List.length_append, len_1, numsT_len, numsT_len] at hl ⊢
  have hl : a + (6 + (2 * 1 + (2 * cs.length + ((stT ss).length + 1)))) ≤ lim := hl
  obtain ⟨h1, hat⟩ := At_app.mp hat
  obtain ⟨h2, hat⟩ := At_app.mp hat
  obtain ⟨h3, hat⟩ := At_app.mp hat
  obtain ⟨h4, h5⟩ := At_app.mp hat
  rw [len_1] at h2 h3 h4 h5
  rw [numsT_len] at h3 h4 h5
  rw [numsT_len] at h4 h5
  have h3 : At buf (a + 8) (numsT cs) := h3
  have h4 : At buf (a + 8 + 2 * cs.length) (stT ss) := h4
  have h5 : buf (a + 8 + 2 * cs.length + (stT ss).length) = nI 59 := h5.1
  have b6 : buf (a + 6) = nI 32 := h2.1
  have b7 : buf (a + 7) = nI (48 + top) := h2.2.1
  have b8 : buf (a + 8) = nI 32 := by
    cases cs with
    | nil => exact absurd rfl hc0
    | cons c cs => exact h3.1
  have t0 : tokN buf lim a = (a, a + 6, 2, 0) := by
    have := tk_word (lim := lim) h1 let_ok.1 (by decide) (by decide) (by rw [len_1]; exact b6) (by rw [len_1]; omega)
    rw [len_1] at this
    exact this
  have t1 : tokN buf lim (a + 6) = (a + 7, a + 8, 3, top) := tk_num b6 b7 ht2 b8 (Or.inl rfl) (by omega)
  have w1 : isW buf 1 (a, a + 6, 2, 0) = true := by
    have := isW_y (i := 1) (by decide) h1
    rw [len_1] at this
    exact this
  rw [t0]
  refine ⟨(by decide : (2 : Nat) ≠ 0), ?_⟩
  have e6 : Tk.en (a, a + 6, 2, 0) = a + 6 := rfl
  have e8 : Tk.en (a + 7, a + 8, 3, top) = a + 8 := rfl
  cases ss with
  | nil =>
    have h5 : buf (a + 8 + 2 * cs.length) = nI 59 := h5
    have hl : a + (6 + (2 * 1 + (2 * cs.length + (0 + 1)))) ≤ lim := hl
    have t3 : tokN buf lim (a + 8 + 2 * cs.length) = (a + 8 + 2 * cs.length, a + 8 + 2 * cs.length + 1, 4, 0) := tk_semi h5 (by omega)
    have hset := set_run (buf := buf) (lim := lim) (hi := top) (most := 3) (by omega) cs 5 0 0 (a + 8) h3 ⟨59, h5, Or.inr rfl⟩ (by omega) (by rw [t3]; exact (by decide : (4 : Nat) ≠ 3)) (by omega) (by omega) (Or.inr hc0) (fun c q => ⟨(hc c q).1, (hc c q).2, by have := (hc c q).2; omega, Nat.zero_testBit c⟩) hcn
    refine ⟨orL 0 cs, 14, ?_⟩
    unfold staE
    rw [if_pos w1]
    unfold ladE
    rw [if_neg (by omega), e6, t1, nume ht1 (by omega)]
    dsimp only
    rw [e8, hset]
    dsimp only
    rw [t3, isW_n (Or.inl (by decide)), if_neg (by decide), ← t3, sem_ok h5 (by omega)]
    rw [show a + (6 + (2 * [top].length + (2 * cs.length + ((stT []).length + [59].length)))) = a + 8 + 2 * cs.length + 1 by simp only [List.length_cons, List.length_nil, stT]; omega]
  | cons s ss =>
    have h4 : At buf (a + 8 + 2 * cs.length) (32 :: (strN 2 ++ numsT (s :: ss))) := h4
    have hlen : (stT (s :: ss)).length = 1 + (5 + 2 * (s :: ss).length) := by
      show (strN 2 ++ numsT (s :: ss)).length + 1 = _
      rw [List.length_append, len_2, numsT_len]
      omega
    rw [hlen] at h5 hl ⊢
    obtain ⟨g1, g2⟩ := h4
    obtain ⟨g3, g4⟩ := At_app.mp g2
    rw [len_2] at g4
    have g5 : buf (a + 8 + 2 * cs.length + 1 + 5) = nI 32 := g4.1
    have t3 : tokN buf lim (a + 8 + 2 * cs.length) = (a + 8 + 2 * cs.length + 1, a + 8 + 2 * cs.length + 1 + 5, 2, 0) := by
      have := tk_word1 (lim := lim) g1 g3 let_ok.2.1 (by decide) (by decide) (by rw [len_2]; exact g5) (by rw [len_2]; omega)
      rw [len_2] at this
      exact this
    have hset := set_run (buf := buf) (lim := lim) (hi := top) (most := 3) (by omega) cs 5 0 0 (a + 8) h3 ⟨32, g1, Or.inl rfl⟩ (by omega) (by rw [t3]; exact (by decide : (2 : Nat) ≠ 3)) (by omega) (by omega) (Or.inr hc0) (fun c q => ⟨(hc c q).1, (hc c q).2, by have := (hc c q).2; omega, Nat.zero_testBit c⟩) hcn
    have w2 : isW buf 2 (a + 8 + 2 * cs.length + 1, a + 8 + 2 * cs.length + 1 + 5, 2, 0) = true := by
      have := isW_y (i := 2) (by decide) g3
      rw [len_2] at this
      exact this
    have e13 : Tk.en (a + 8 + 2 * cs.length + 1, a + 8 + 2 * cs.length + 1 + 5, 2, 0) = a + 8 + 2 * cs.length + 1 + 5 := rfl
    have h5 : buf (a + 8 + 2 * cs.length + 1 + 5 + 2 * (s :: ss).length) = nI 59 := by
      rw [show a + 8 + 2 * cs.length + 1 + 5 + 2 * (s :: ss).length = a + 8 + 2 * cs.length + (1 + (5 + 2 * (s :: ss).length)) by omega]
      exact h5
    have hend : a + 8 + 2 * cs.length + 1 + 5 + 2 * (s :: ss).length < lim := by omega
    have t5 := tk_semi h5 hend
    have hset2 := set_run (buf := buf) (lim := lim) (hi := 12) (most := 4) (by omega) (s :: ss) 6 0 0 (a + 8 + 2 * cs.length + 1 + 5) g4 ⟨59, h5, Or.inr rfl⟩ hend (by rw [t5]; exact (by decide : (4 : Nat) ≠ 3)) (by omega) (by omega) (Or.inr (by simp)) (fun c q => ⟨(hs c q).1, by have := (hs c q).2; omega, (hs c q).2, Nat.zero_testBit c⟩) hsn
    refine ⟨orL 0 cs, orL 0 (s :: ss), ?_⟩
    unfold staE
    rw [if_pos w1]
    unfold ladE
    rw [if_neg (by omega), e6, t1, nume ht1 (by omega)]
    dsimp only
    rw [e8, hset]
    dsimp only
    rw [t3, if_pos w2, e13, hset2]
    dsimp only
    rw [sem_ok h5 hend]
    rw [show a + (6 + ((2 * [top].length) + (2 * cs.length + ((1 + (5 + 2 * (s :: ss).length)) + [59].length)))) = a + 8 + 2 * cs.length + 1 + 5 + 2 * (s :: ss).length + 1 by simp only [List.length_cons, List.length_nil]; omega]
def lokT (h : Nat) : List Nat := strN 3 ++ (numsT [0, h] ++ [59])
theorem sta_lok {buf : Nat → Int32} {lim a h : Nat} {D : Dr} (hat : At buf a (lokT h)) (hl : a + (lokT h).length ≤ lim) (hn : 0 < D.g.n) (h1 : 1 ≤ h) (h2 : h ≤ D.g.top 0) (h10 : h < 10) (hb : (D.g.lk 0).testBit h = false) :
    (tokN buf lim a).kd ≠ 0 ∧ staE buf lim (tokN buf lim a) D = .ok (tokN buf lim (a + (lokT h).length), D.g.slk 0 (D.g.lk 0 ||| 2 ^ h), D.2) := by
  unfold lokT at hat hl ⊢
  rw [List.length_append, List.length_append, len_3, numsT_len] at hl ⊢
  have hl : a + (4 + (2 * 2 + 1)) ≤ lim := hl
  obtain ⟨g1, hat⟩ := At_app.mp hat
  obtain ⟨g2, g3⟩ := At_app.mp hat
  rw [len_3] at g2 g3
  rw [numsT_len] at g3
  have b4 : buf (a + 4) = nI 32 := g2.1
  have b5 : buf (a + 5) = nI (48 + 0) := g2.2.1
  have b6 : buf (a + 6) = nI 32 := g2.2.2.1
  have b7 : buf (a + 7) = nI (48 + h) := g2.2.2.2.1
  have b8 : buf (a + 8) = nI 59 := g3.1
  have t0 : tokN buf lim a = (a, a + 4, 2, 0) := by
    have := tk_word (lim := lim) g1 let_ok.2.2.1 (by decide) (by decide) (by rw [len_3]; exact b4) (by rw [len_3]; omega)
    rw [len_3] at this
    exact this
  have t1 : tokN buf lim (a + 4) = (a + 5, a + 6, 3, 0) := tk_num b4 b5 (by decide) b6 (Or.inl rfl) (by omega)
  have t2 : tokN buf lim (a + 6) = (a + 7, a + 8, 3, h) := tk_num b6 b7 h10 b8 (Or.inr rfl) (by omega)
  have w3 : isW buf 3 (a, a + 4, 2, 0) = true := by
    have := isW_y (i := 3) (by decide) g1
    rw [len_3] at this
    exact this
  have w1 : isW buf 1 (a, a + 4, 2, 0) = false := isW_n (Or.inr (by
    have : strLen.getD 1 0 = 6 := by decide
    omega))
  rw [t0]
  refine ⟨(by decide : (2 : Nat) ≠ 0), ?_⟩
  have e4 : Tk.en (a, a + 4, 2, 0) = a + 4 := rfl
  have e6 : Tk.en (a + 5, a + 6, 3, 0) = a + 6 := rfl
  have e8 : Tk.en (a + 7, a + 8, 3, h) = a + 8 := rfl
  have nb : numB (a + 5, a + 6, 3, 0) (decide (Tk.nm (a + 5, a + 6, 3, 0) < D.g.n)) = .ok 0 := by
    unfold numB
    rw [if_pos (show Tk.kd (a + 5, a + 6, 3, 0) = 3 from rfl), if_pos (show decide (Tk.nm (a + 5, a + 6, 3, 0) < D.g.n) = true from decide_eq_true hn)]
    rfl
  unfold staE
  rw [w1, if_neg (by decide), if_pos w3]
  unfold lokE
  rw [e4, t1, nb]
  dsimp only
  rw [e6, t2, nume h1 h2]
  dsimp only
  rw [hb, if_neg (by decide), e8, sem_ok b8 (by omega)]
  rfl
def tokT (x y z : Nat) : List Nat := strN 4 ++ (numsT [x, y, z] ++ [59])
theorem sta_tok {buf : Nat → Int32} {lim a x y z : Nat} {D : Dr} (hat : At buf a (tokT x y z)) (hl : a + (tokT x y z).length ≤ lim) (hx : x < 10) (hy : y < 10) (hz : z < 10) (hh : D.ht = false) :
    (tokN buf lim a).kd ≠ 0 ∧ ∃ f, staE buf lim (tokN buf lim a) D = .ok (tokN buf lim (a + (tokT x y z).length), D.g, f, D.fi, true, D.hf) := by
  unfold tokT at hat hl ⊢
  rw [List.length_append, List.length_append, len_4, numsT_len] at hl ⊢
  have hl : a + (6 + (2 * 3 + 1)) ≤ lim := hl
  obtain ⟨g1, hat⟩ := At_app.mp hat
  obtain ⟨g2, g3⟩ := At_app.mp hat
  rw [len_4] at g2 g3
  rw [numsT_len] at g3
  have b6 : buf (a + 6) = nI 32 := g2.1
  have b7 : buf (a + 7) = nI (48 + x) := g2.2.1
  have b8 : buf (a + 8) = nI 32 := g2.2.2.1
  have b9 : buf (a + 9) = nI (48 + y) := g2.2.2.2.1
  have b10 : buf (a + 10) = nI 32 := g2.2.2.2.2.1
  have b11 : buf (a + 11) = nI (48 + z) := g2.2.2.2.2.2.1
  have b12 : buf (a + 12) = nI 59 := g3.1
  have t0 : tokN buf lim a = (a, a + 6, 2, 0) := by
    have := tk_word (lim := lim) g1 let_ok.2.2.2.1 (by decide) (by decide) (by rw [len_4]; exact b6) (by rw [len_4]; omega)
    rw [len_4] at this
    exact this
  have t1 : tokN buf lim (a + 6) = (a + 7, a + 8, 3, x) := tk_num b6 b7 hx b8 (Or.inl rfl) (by omega)
  have t2 : tokN buf lim (a + 8) = (a + 9, a + 10, 3, y) := tk_num b8 b9 hy b10 (Or.inl rfl) (by omega)
  have t3 : tokN buf lim (a + 10) = (a + 11, a + 12, 3, z) := tk_num b10 b11 hz b12 (Or.inr rfl) (by omega)
  have w4 : isW buf 4 (a, a + 6, 2, 0) = true := by
    have := isW_y (i := 4) (by decide) g1
    rw [len_4] at this
    exact this
  have bt : buf a = nI 116 := by
    have := At_get (j := 0) g1 (by decide)
    exact this
  have w1 : isW buf 1 (a, a + 6, 2, 0) = false := isW_n0 (by decide) (by rw [bt]; decide)
  have w3 : isW buf 3 (a, a + 6, 2, 0) = false := isW_n (Or.inr (by
    have : strLen.getD 3 0 = 4 := by decide
    omega))
  rw [t0]
  refine ⟨(by decide : (2 : Nat) ≠ 0), (fun i => if i = 2 then z else if i = 1 then y else if i = 0 then x else D.tk i), ?_⟩
  have e6 : Tk.en (a, a + 6, 2, 0) = a + 6 := rfl
  have e8 : Tk.en (a + 7, a + 8, 3, x) = a + 8 := rfl
  have e10 : Tk.en (a + 9, a + 10, 3, y) = a + 10 := rfl
  have e12 : Tk.en (a + 11, a + 12, 3, z) = a + 12 := rfl
  have ef : tkF buf lim 3 0 (tokN buf lim (a + 6)) D.tk = .ok (tokN buf lim (a + 12), fun i => if i = 2 then z else if i = 1 then y else if i = 0 then x else D.tk i) := by
    rw [t1, tkF, nume (Nat.zero_le _) (by omega)]
    dsimp only
    rw [e8, t2, tkF, nume (Nat.zero_le _) (by omega)]
    dsimp only
    rw [e10, t3, tkF, nume (Nat.zero_le _) (by omega)]
    dsimp only
    rw [e12, tkF]
  unfold staE
  rw [w1, if_neg (by decide), w3, if_neg (by decide), if_pos w4]
  unfold tokE
  rw [hh, if_neg (by decide), e6, ef]
  dsimp only
  rw [sem_ok b12 (by omega)]
  rfl
def firT (x : Nat) : List Nat := strN 5 ++ (numsT [x] ++ [59])
theorem sta_fir {buf : Nat → Int32} {lim a x : Nat} {D : Dr} (hat : At buf a (firT x)) (hl : a + (firT x).length ≤ lim) (hx : x ≤ 1) (hh : D.hf = false) :
    (tokN buf lim a).kd ≠ 0 ∧ staE buf lim (tokN buf lim a) D = .ok (tokN buf lim (a + (firT x).length), D.g, D.tk, x, D.ht, true) := by
  unfold firT at hat hl ⊢
  rw [List.length_append, List.length_append, len_5, numsT_len] at hl ⊢
  have hl : a + (5 + (2 * 1 + 1)) ≤ lim := hl
  obtain ⟨g1, hat⟩ := At_app.mp hat
  obtain ⟨g2, g3⟩ := At_app.mp hat
  rw [len_5] at g2 g3
  rw [numsT_len] at g3
  have b5 : buf (a + 5) = nI 32 := g2.1
  have b6 : buf (a + 6) = nI (48 + x) := g2.2.1
  have b7 : buf (a + 7) = nI 59 := g3.1
  have t0 : tokN buf lim a = (a, a + 5, 2, 0) := by
    have := tk_word (lim := lim) g1 let_ok.2.2.2.2 (by decide) (by decide) (by rw [len_5]; exact b5) (by rw [len_5]; omega)
    rw [len_5] at this
    exact this
  have t1 : tokN buf lim (a + 5) = (a + 6, a + 7, 3, x) := tk_num b5 b6 (by omega) b7 (Or.inr rfl) (by omega)
  have w5 : isW buf 5 (a, a + 5, 2, 0) = true := by
    have := isW_y (i := 5) (by decide) g1
    rw [len_5] at this
    exact this
  have w1 : isW buf 1 (a, a + 5, 2, 0) = false := isW_n (Or.inr (by
    have : strLen.getD 1 0 = 6 := by decide
    omega))
  have w3 : isW buf 3 (a, a + 5, 2, 0) = false := isW_n (Or.inr (by
    have : strLen.getD 3 0 = 4 := by decide
    omega))
  have w4 : isW buf 4 (a, a + 5, 2, 0) = false := isW_n (Or.inr (by
    have : strLen.getD 4 0 = 6 := by decide
    omega))
  rw [t0]
  refine ⟨(by decide : (2 : Nat) ≠ 0), ?_⟩
  have e5 : Tk.en (a, a + 5, 2, 0) = a + 5 := rfl
  have e7 : Tk.en (a + 6, a + 7, 3, x) = a + 7 := rfl
  unfold staE
  rw [w1, if_neg (by decide), w3, if_neg (by decide), w4, if_neg (by decide), if_pos w5]
  unfold firE
  rw [hh, if_neg (by decide), e5, t1, nume (Nat.zero_le _) hx]
  dsimp only
  rw [e7, sem_ok b7 (by omega)]
  rfl
theorem gam_go {buf : Nat → Int32} {lim k a b : Nat} {D D' : Dr} (h : (tokN buf lim a).kd ≠ 0) (h2 : staE buf lim (tokN buf lim a) D = .ok (tokN buf lim b, D')) : gamF buf lim (k + 1) (tokN buf lim a) D = gamF buf lim k (tokN buf lim b) D' := by
  rw [gamF, if_neg h, h2]

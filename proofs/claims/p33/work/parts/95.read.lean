/-! the game's text as the grammar reads it -/
def At (buf : Nat → Int32) : Nat → List Nat → Prop
  | _, [] => True
  | a, c :: L => buf a = nI c ∧ At buf (a + 1) L
theorem At_app {buf : Nat → Int32} {M : List Nat} : ∀ {L : List Nat} {a : Nat}, At buf a (L ++ M) ↔ At buf a L ∧ At buf (a + L.length) M
  | [], a => ⟨fun h => ⟨trivial, h⟩, fun h => h.2⟩
  | c :: L, a => by
    show buf a = nI c ∧ At buf (a + 1) (L ++ M) ↔ (buf a = nI c ∧ At buf (a + 1) L) ∧ At buf (a + (L.length + 1)) M
    rw [At_app (L := L), show a + 1 + L.length = a + (L.length + 1) by omega, and_assoc]
theorem At_of {buf : Nat → Int32} : ∀ {L : List Nat} {a : Nat}, (∀ j, j < L.length → buf (a + j) = nI (L.getD j 0)) → At buf a L
  | [], _, _ => trivial
  | c :: L, a, h => ⟨h 0 (Nat.zero_lt_succ _), At_of (fun j hj => by
    have := h (j + 1) (Nat.succ_lt_succ hj)
    rw [show a + 1 + j = a + (j + 1) by omega, this]
    rfl)⟩
theorem At_get {buf : Nat → Int32} : ∀ {L : List Nat} {a j : Nat}, At buf a L → j < L.length → buf (a + j) = nI (L.getD j 0)
  | [], _, _, _, hj => absurd hj (Nat.not_lt_zero _)
  | c :: L, a, 0, h, _ => h.1
  | c :: L, a, j + 1, h, hj => by
    rw [show a + (j + 1) = a + 1 + j by omega]
    exact At_get (L := L) h.2 (Nat.lt_of_succ_lt_succ hj)
theorem run_n {p : Int32 → Bool} {buf : Nat → Int32} {lim : Nat} : ∀ (n a : Nat), (∀ j, j < n → a + j < lim ∧ p (buf (a + j)) = true) → ¬ (a + n < lim ∧ p (buf (a + n)) = true) → run p buf lim a = a + n
  | 0, a, _, h => run_stop h
  | n + 1, a, h, h2 => by
    have h0 := h 0 (by omega)
    rw [run_go (p := p) (buf := buf) (lim := lim) (a := a) h0.1 h0.2, run_n n (a + 1) (fun j hj => by
      have := h (j + 1) (by omega)
      rw [show a + (j + 1) = a + 1 + j by omega] at this
      exact this) (by rw [show a + 1 + n = a + (n + 1) by omega]; exact h2)]
    omega
theorem ch_cls : ∀ c, c < 128 → wB (nI c) = (decide (c = 32) || decide (c = 10)) ∧ lB (nI c) = (decide (97 ≤ c) && decide (c ≤ 122)) ∧ dB (nI c) = (decide (48 ≤ c) && decide (c ≤ 57)) ∧ dv (nI c) = c - 48 := by decide +kernel
theorem cw {c : Nat} (h : c < 128) (h1 : c ≠ 32) (h2 : c ≠ 10) : wB (nI c) = false := by
  rw [(ch_cls c h).1]
  simp [h1, h2]
theorem cd {c : Nat} (h : 48 ≤ c) (h2 : c ≤ 57) : dB (nI c) = true ∧ lB (nI c) = false ∧ wB (nI c) = false ∧ dv (nI c) = c - 48 := by
  obtain ⟨a1, a2, a3, a4⟩ := ch_cls c (by omega)
  refine ⟨?_, ?_, cw (by omega) (by omega) (by omega), a4⟩
  · rw [a3]
    simp [h, h2]
  · rw [a2]
    simp
    omega
theorem c_ndig {c : Nat} (h : c = 32 ∨ c = 59) : dB (nI c) = false ∧ lB (nI c) = false := by
  rcases h with rfl | rfl <;> exact ⟨by decide, by decide⟩
/-- a number behind a space -/
theorem tk_num {buf : Nat → Int32} {lim a v s : Nat} (h0 : buf a = nI 32) (h1 : buf (a + 1) = nI (48 + v)) (hv : v < 10) (h2 : buf (a + 2) = nI s) (hs : s = 32 ∨ s = 59) (hl : a + 2 < lim) : tokN buf lim a = (a + 1, a + 2, 3, v) := by
  obtain ⟨d1, d2, d3, d4⟩ := cd (c := 48 + v) (by omega) (by omega)
  have r1 : run wB buf lim a = a + 1 := run_n 1 a (fun j hj => by
    have : j = 0 := by omega
    subst this
    exact ⟨by omega, by rw [Nat.add_zero, h0]; decide⟩) (by rw [h1, d3]; exact fun c => absurd c.2 (by decide))
  have r2 : run dB buf lim (a + 1) = a + 2 := run_n 1 (a + 1) (fun j hj => by
    have : j = 0 := by omega
    subst this
    exact ⟨by omega, by rw [Nat.add_zero, h1]; exact d1⟩) (by rw [show a + 1 + 1 = a + 2 from rfl, h2, (c_ndig hs).1]; exact fun c => absurd c.2 (by decide))
  unfold tokN tok1
  rw [r1, if_neg (by omega), h1, d2, if_neg (by decide), d1, if_pos rfl, r2, if_pos (by omega)]
  unfold nmN
  rw [if_pos rfl, h1, d4, show 48 + v - 48 = v by omega]
/-- a semicolon -/
theorem tk_semi {buf : Nat → Int32} {lim a : Nat} (h0 : buf a = nI 59) (hl : a < lim) : tokN buf lim a = (a, a + 1, 4, 0) := by
  have r1 : run wB buf lim a = a := run_stop (by rw [h0]; exact fun c => absurd c.2 (by decide))
  unfold tokN tok1
  rw [r1, if_neg (by omega), h0]
  rfl
/-- the end -/
theorem tk_end {buf : Nat → Int32} {lim : Nat} : tokN buf lim lim = (lim, lim, 0, 0) := by
  have r1 : run wB buf lim lim = lim := run_stop (by omega)
  unfold tokN tok1
  rw [r1, if_pos (Nat.le_refl _)]
/-- a word of small letters, a space behind it -/
theorem tk_word {buf : Nat → Int32} {lim a : Nat} {L : List Nat} (h : At buf a L) (hL : ∀ c, c ∈ L → 97 ≤ c ∧ c ≤ 122) (h1 : 1 ≤ L.length) (h8 : L.length ≤ 8) (h2 : buf (a + L.length) = nI 32) (hl : a + L.length < lim) : tokN buf lim a = (a, a + L.length, 2, 0) := by
  have hc : ∀ j, j < L.length → buf (a + j) = nI (L.getD j 0) ∧ 97 ≤ L.getD j 0 ∧ L.getD j 0 ≤ 122 := by
    intro j hj
    refine ⟨At_get h hj, ?_⟩
    have e : L.getD j 0 = L[j] := by rw [List.getD_eq_getElem?_getD, List.getElem?_eq_getElem hj]; rfl
    rw [e]
    exact hL _ (List.getElem_mem hj)
  have hlb : ∀ c, 97 ≤ c → c ≤ 122 → lB (nI c) = true ∧ wB (nI c) = false := by
    intro c a1 a2
    refine ⟨?_, cw (by omega) (by omega) (by omega)⟩
    rw [(ch_cls c (by omega)).2.1]
    simp [a1, a2]
  have b0 := hc 0 h1
  rw [Nat.add_zero] at b0
  have r1 : run wB buf lim a = a := run_stop (by rw [b0.1, (hlb _ b0.2.1 b0.2.2).2]; exact fun c => absurd c.2 (by decide))
  have r2 : run lB buf lim a = a + L.length := run_n L.length a (fun j hj => ⟨by omega, by rw [(hc j hj).1]; exact (hlb _ (hc j hj).2.1 (hc j hj).2.2).1⟩) (by rw [h2]; exact fun c => absurd c.2 (by decide))
  unfold tokN tok1
  rw [r1, if_neg (by omega), b0.1, (hlb _ b0.2.1 b0.2.2).1, if_pos rfl, r2, if_pos (by omega)]
/-- the same, a space ahead of it -/
theorem tk_word1 {buf : Nat → Int32} {lim a : Nat} {L : List Nat} (h0 : buf a = nI 32) (h : At buf (a + 1) L) (hL : ∀ c, c ∈ L → 97 ≤ c ∧ c ≤ 122) (h1 : 1 ≤ L.length) (h8 : L.length ≤ 8) (h2 : buf (a + 1 + L.length) = nI 32) (hl : a + 1 + L.length < lim) : tokN buf lim a = (a + 1, a + 1 + L.length, 2, 0) := by
  have hw := tk_word h hL h1 h8 h2 hl
  have e : run wB buf lim a = run wB buf lim (a + 1) := run_go (by omega) (by rw [h0]; decide)
  unfold tokN at hw ⊢
  rw [e]
  exact hw
theorem isW_y {buf : Nat → Int32} {a i : Nat} (hi : i < 18) (h : At buf a (strN i)) : isW buf i (a, a + (strN i).length, 2, 0) = true := by
  obtain ⟨n1, n2, n3⟩ := strN_ok i hi
  refine decide_eq_true ⟨rfl, ?_, fun j hj => ?_⟩
  · show a + (strN i).length - a = strLen.getD i 0
    omega
  · rw [n1] at hj
    show buf (a + j) = _
    have hc : (strN i).getD j 0 < 128 := by
      rw [List.getD_eq_getElem?_getD, List.getElem?_eq_getElem hj]
      exact n3 _ (List.getElem_mem hj)
    rw [n2 j hj, ch_ok _ hc]
    exact At_get h hj
theorem isW_n {buf : Nat → Int32} {a b k v i : Nat} (h : k ≠ 2 ∨ b - a ≠ strLen.getD i 0) : isW buf i (a, b, k, v) = false := by
  refine decide_eq_false (fun c => ?_)
  rcases h with h | h
  · exact h c.1
  · exact h c.2.1
theorem isW_n0 {buf : Nat → Int32} {a b k v i : Nat} (h : 0 < strLen.getD i 0) (h2 : buf a ≠ (strBy.getD i []).getD 0 0 &&& 255) : isW buf i (a, b, k, v) = false := by
  refine decide_eq_false (fun c => h2 ?_)
  have := c.2.2 0 h
  exact this
/-! numbers in a row -/
def numsT (cs : List Nat) : List Nat := cs.flatMap (fun c => [32, 48 + c])
theorem numsT_len : ∀ cs : List Nat, (numsT cs).length = 2 * cs.length
  | [] => rfl
  | c :: cs => by
    show (numsT cs).length + 1 + 1 = _
    rw [numsT_len cs, List.length_cons]
    omega
def orL (b : Nat) (cs : List Nat) : Nat := cs.foldl (fun b c => b ||| 2 ^ c) b
theorem set_run {buf : Nat → Int32} {lim hi most : Nat} (hhi : hi ≤ 12) : ∀ (cs : List Nat) (fuel bits n a : Nat), At buf a (numsT cs) → (∃ s, buf (a + 2 * cs.length) = nI s ∧ (s = 32 ∨ s = 59)) → a + 2 * cs.length < lim → (tokN buf lim (a + 2 * cs.length)).kd ≠ 3 → cs.length < fuel → n + cs.length ≤ most → (n ≠ 0 ∨ cs ≠ []) → (∀ c, c ∈ cs → 1 ≤ c ∧ c ≤ hi ∧ c < 10 ∧ bits.testBit c = false) → cs.Nodup → setF buf lim hi most fuel bits n (tokN buf lim a) = .ok (orL bits cs, tokN buf lim (a + 2 * cs.length))
  | _, 0, _, _, _, _, _, _, _, hf, _, _, _, _ => absurd hf (Nat.not_lt_zero _)
  | [], f + 1, bits, n, a, _, _, _, hk, _, _, h0, _, _ => by
    have hk : (tokN buf lim a).kd ≠ 3 := hk
    unfold setF
    rw [if_neg (by rintro (q | q); exact h0.elim (fun z => z q) (fun z => z rfl); exact hk q)]
    rfl
  | c :: cs, f + 1, bits, n, a, hat, hs, hl, hk, hf, hm, _, hc, hnd => by
    obtain ⟨h1, h2, h3⟩ := hat
    obtain ⟨c1, c2, c3, c4⟩ := hc c List.mem_cons_self
    obtain ⟨nd1, nd2⟩ := List.nodup_cons.mp hnd
    rw [List.length_cons] at hs hl hk hf hm ⊢
    have hs2 : ∃ s, buf (a + 2) = nI s ∧ (s = 32 ∨ s = 59) := by
      cases cs with
      | nil => exact hs
      | cons d cs => exact ⟨32, h3.1, Or.inl rfl⟩
    obtain ⟨s, s1, s2⟩ := hs2
    have ht := tk_num (lim := lim) h1 h2 c3 s1 s2 (by omega)
    have e2 : a + 2 * (cs.length + 1) = a + 2 + 2 * cs.length := by omega
    rw [e2] at hs hl hk ⊢
    unfold setF
    rw [ht]
    have e3 : numE (a + 1, a + 2, 3, c) 1 hi = .ok c := by
      unfold numE numB
      rw [if_pos (show Tk.kd (a + 1, a + 2, 3, c) = 3 from rfl), if_pos (decide_eq_true ⟨c1, c2⟩)]
      rfl
    rw [if_pos (show n = 0 ∨ Tk.kd (a + 1, a + 2, 3, c) = 3 from Or.inr rfl), e3]
    dsimp only
    rw [if_neg (by rw [c4]; decide), if_neg (by omega)]
    exact set_run hhi cs f (bits ||| 2 ^ c) (n + 1) (a + 2) h3 hs hl hk (by omega) (by omega) (Or.inl (by omega)) (fun d hd => by
      obtain ⟨d1, d2, d3, d4⟩ := hc d (List.mem_cons_of_mem _ hd)
      refine ⟨d1, d2, d3, ?_⟩
      rw [fb_bit_set, d4, show decide (d = c) = false from decide_eq_false (fun q => nd1 (q ▸ hd))]
      rfl) nd2

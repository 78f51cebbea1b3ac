/-! tokens of a text, as both programs read them -/
def wB (b : Int32) : Bool := decide (b = 32) || decide (b = 10)
def lB (b : Int32) : Bool := decide (97 ≤ b) && decide (b ≤ 122)
def dB (b : Int32) : Bool := decide (48 ≤ b) && decide (b ≤ 57)
def runF (p : Int32 → Bool) (buf : Nat → Int32) (lim : Nat) : Nat → Nat → Nat
  | 0, a => a
  | k + 1, a => if a < lim ∧ p (buf a) = true then runF p buf lim k (a + 1) else a
def run (p : Int32 → Bool) (buf : Nat → Int32) (lim a : Nat) : Nat := runF p buf lim (lim - a) a
theorem run_stop {p : Int32 → Bool} {buf : Nat → Int32} {lim a : Nat} (h : ¬ (a < lim ∧ p (buf a) = true)) : run p buf lim a = a := by
  unfold run
  cases lim - a with
  | zero => rfl
  | succ k => rw [runF, if_neg h]
theorem run_go {p : Int32 → Bool} {buf : Nat → Int32} {lim a : Nat} (h1 : a < lim) (h2 : p (buf a) = true) : run p buf lim a = run p buf lim (a + 1) := by
  unfold run
  rw [show lim - a = (lim - (a + 1)) + 1 by omega, runF, if_pos ⟨h1, h2⟩]
theorem run_sp (p : Int32 → Bool) (buf : Nat → Int32) (lim : Nat) : ∀ (k a : Nat), a + k = lim → a ≤ run p buf lim a ∧ run p buf lim a ≤ lim ∧ ∀ i, a ≤ i → i < run p buf lim a → p (buf i) = true
  | 0, a, h => by
    rw [run_stop (by omega)]
    exact ⟨Nat.le_refl _, by omega, fun i h1 h2 => by omega⟩
  | k + 1, a, h => by
    by_cases q : p (buf a) = true
    · rw [run_go (by omega) q]
      obtain ⟨h1, h2, h3⟩ := run_sp p buf lim k (a + 1) (by omega)
      refine ⟨by omega, h2, fun i a1 a2 => ?_⟩
      by_cases e : i = a
      · rw [e]; exact q
      · exact h3 i (by omega) a2
    · rw [run_stop (fun c => q c.2)]
      exact ⟨Nat.le_refl _, by omega, fun i h1 h2 => by omega⟩
theorem run_end {p : Int32 → Bool} {buf : Nat → Int32} {lim : Nat} : ∀ (k a : Nat), a + k = lim → run p buf lim a < lim → p (buf (run p buf lim a)) = false
  | 0, a, h, h2 => by
    rw [run_stop (by omega)] at h2
    omega
  | k + 1, a, h, h2 => by
    by_cases q : p (buf a) = true
    · rw [run_go (by omega) q] at h2 ⊢
      exact run_end k (a + 1) (by omega) h2
    · rw [run_stop (fun c => q c.2)]
      simpa using q
abbrev Tk : Type := Nat × Nat × Nat × Nat
def Tk.st (t : Tk) : Nat := t.1
def Tk.en (t : Tk) : Nat := t.2.1
def Tk.kd (t : Tk) : Nat := t.2.2.1
def Tk.nm (t : Tk) : Nat := t.2.2.2
def dv (b : Int32) : Nat := b.toNatClampNeg - 48
def nmN (buf : Nat → Int32) (s e : Nat) : Nat := if e = s + 1 then dv (buf s) else 10 * dv (buf s) + dv (buf (s + 1))
def tok1 (buf : Nat → Int32) (lim s : Nat) : Tk :=
  if lim ≤ s then (s, s, 0, 0)
  else if lB (buf s) = true then (s, run lB buf lim s, if run lB buf lim s - s ≤ 8 then 2 else 1, 0)
  else if dB (buf s) = true then (s, run dB buf lim s, if run dB buf lim s - s ≤ 2 then 3 else 1, nmN buf s (run dB buf lim s))
  else (s, s + 1, if buf s = 59 then 4 else 1, 0)
def tokN (buf : Nat → Int32) (lim a : Nat) : Tk := tok1 buf lim (run wB buf lim a)
theorem tokN_sp {buf : Nat → Int32} {lim a : Nat} (ha : a ≤ lim) : a ≤ (tokN buf lim a).st ∧ (tokN buf lim a).st ≤ (tokN buf lim a).en ∧ (tokN buf lim a).en ≤ lim ∧ (tokN buf lim a).kd ≤ 4 ∧ ((tokN buf lim a).kd ≠ 0 → (tokN buf lim a).st < (tokN buf lim a).en) ∧ (tokN buf lim a).nm ≤ 99 := by
  obtain ⟨h1, h2, h3⟩ := run_sp wB buf lim (lim - a) a (by omega)
  unfold tokN tok1
  generalize run wB buf lim a = s at h1 h2 h3
  have hdv : ∀ b : Int32, dB b = true → dv b ≤ 9 := fun b hb => by
    unfold dB at hb
    rw [Bool.and_eq_true, decide_eq_true_eq, decide_eq_true_eq] at hb
    obtain ⟨j, j1, j2, rfl⟩ := rng (y := b) (a := 48) (b := 57) (by omega) (by omega) (by rw [fa_lt]; have := (fa_le _ _).mp hb.1; exact Int.not_lt.mpr this) (by rw [fa_lt]; have := (fa_le _ _).mp hb.2; exact Int.not_lt.mpr this)
    unfold dv
    rw [nI_clamp (by omega)]
    omega
  by_cases q0 : lim ≤ s
  · rw [if_pos q0]
    exact ⟨h1, Nat.le_refl _, h2, Nat.zero_le _, fun c => absurd rfl c, Nat.zero_le _⟩
  rw [if_neg q0]
  by_cases q1 : lB (buf s) = true
  · rw [if_pos q1]
    obtain ⟨g1, g2, g3⟩ := run_sp lB buf lim (lim - (s + 1)) (s + 1) (by omega)
    rw [run_go (by omega) q1]
    refine ⟨h1, by show s ≤ run lB buf lim (s + 1); omega, g2, ?_, fun _ => by show s < run lB buf lim (s + 1); omega, by show 0 ≤ 99; omega⟩
    show (if run lB buf lim (s + 1) - s ≤ 8 then 2 else 1) ≤ 4
    by_cases q : run lB buf lim (s + 1) - s ≤ 8
    · rw [if_pos q]; omega
    · rw [if_neg q]; omega
  rw [if_neg q1]
  by_cases q2 : dB (buf s) = true
  · rw [if_pos q2]
    obtain ⟨g1, g2, g3⟩ := run_sp dB buf lim (lim - (s + 1)) (s + 1) (by omega)
    rw [run_go (by omega) q2]
    by_cases q : run dB buf lim (s + 1) - s ≤ 2
    · refine ⟨h1, by show s ≤ run dB buf lim (s + 1); omega, g2, ?_, fun _ => by show s < run dB buf lim (s + 1); omega, ?_⟩
      · show (if run dB buf lim (s + 1) - s ≤ 2 then 3 else 1) ≤ 4
        rw [if_pos q]; omega
      · show nmN buf s (run dB buf lim (s + 1)) ≤ 99
        unfold nmN
        have d1 := hdv _ q2
        by_cases e : run dB buf lim (s + 1) = s + 1
        · rw [if_pos e]; omega
        · rw [if_neg e]
          have d2 := hdv _ (g3 (s + 1) (Nat.le_refl _) (by omega))
          omega
    · refine ⟨h1, by show s ≤ run dB buf lim (s + 1); omega, g2, ?_, fun _ => by show s < run dB buf lim (s + 1); omega, ?_⟩
      · show (if run dB buf lim (s + 1) - s ≤ 2 then 3 else 1) ≤ 4
        rw [if_neg q]; omega
      · show nmN buf s (run dB buf lim (s + 1)) ≤ 99
        unfold nmN
        have d1 := hdv _ q2
        by_cases e : run dB buf lim (s + 1) = s + 1
        · rw [if_pos e]; omega
        · rw [if_neg e]
          have d2 := hdv _ (g3 (s + 1) (Nat.le_refl _) (by omega))
          omega
  · rw [if_neg q2]
    refine ⟨h1, by show s ≤ s + 1; omega, by show s + 1 ≤ lim; omega, ?_, fun _ => by show s < s + 1; omega, by show 0 ≤ 99; omega⟩
    show (if buf s = 59 then 4 else 1) ≤ 4
    by_cases q : buf s = 59
    · rw [if_pos q]; omega
    · rw [if_neg q]; omega
theorem dB_at {b : Int32} (h : dB b = true) : b = nI (48 + dv b) ∧ dv b ≤ 9 := by
  unfold dB at h
  rw [Bool.and_eq_true, decide_eq_true_eq, decide_eq_true_eq] at h
  obtain ⟨j, j1, j2, rfl⟩ := rng (y := b) (a := 48) (b := 57) (by omega) (by omega) (by rw [fa_lt]; have := (fa_le _ _).mp h.1; exact Int.not_lt.mpr this) (by rw [fa_lt]; have := (fa_le _ _).mp h.2; exact Int.not_lt.mpr this)
  unfold dv
  rw [nI_clamp (by omega)]
  exact ⟨congrArg nI (by omega), by omega⟩
/-- all but the token -/
def FrN (w w' : Wd) : Prop := (∀ o k, ¬ (o = 1 ∧ 4 ≤ k ∧ k ≤ 7) → gI w' o k = gI w o k) ∧ (∀ o i, gA w' o i = gA w o i) ∧ w'.2.2 = w.2.2
theorem FrN.rf (w : Wd) : FrN w w := ⟨fun _ _ _ => rfl, fun _ _ => rfl, rfl⟩
theorem FrN.tr {a b c : Wd} (h : FrN a b) (g : FrN b c) : FrN a c := ⟨fun o s q => (g.1 o s q).trans (h.1 o s q), fun o i => (g.2.1 o i).trans (h.2.1 o i), g.2.2.trans h.2.2⟩
theorem FrN.s (w : Wd) (k : Nat) (x : Int32) (h : 4 ≤ k ∧ k ≤ 7) : FrN w (sI w 1 k x) := ⟨fun o j q => by rw [gI_sI, if_neg (by omega)], fun _ _ => rfl, rfl⟩
theorem wh_isWhite {w : Wd} {b : Int32} {Post : Int32 → Wd → Prop} (h : Post (bI (wB b)) w) : wp_X1_isWhite w b Post := by
  unfold wp_X1_isWhite
  unfold wB at h
  refine ⟨fun c => ?_, fun c => ⟨fun c2 => ?_, fun c2 => ?_⟩⟩
  · rw [decide_eq_true c, Bool.true_or] at h; exact h
  · rw [decide_eq_true c2, Bool.or_true] at h; exact h
  · rw [decide_eq_false c, decide_eq_false c2] at h; exact h
theorem wh_isLetter {w : Wd} {b : Int32} {Post : Int32 → Wd → Prop} (h : Post (bI (lB b)) w) : wp_X1_isLetter w b Post := by
  unfold wp_X1_isLetter
  unfold lB at h
  refine ⟨fun c => ?_, fun c => ⟨fun c2 => ?_, fun c2 => ?_⟩⟩
  · rw [decide_eq_false (fa_of_lt c).2.1, Bool.false_and] at h; exact h
  · rw [decide_eq_false (fa_of_lt c2).2.1, Bool.and_false] at h; exact h
  · rw [decide_eq_true (fa_of_nlt c), decide_eq_true (fa_of_nlt c2)] at h; exact h
theorem wh_isDigit {w : Wd} {b : Int32} {Post : Int32 → Wd → Prop} (h : Post (bI (dB b)) w) : wp_X1_isDigit w b Post := by
  unfold wp_X1_isDigit
  unfold dB at h
  refine ⟨fun c => ?_, fun c => ⟨fun c2 => ?_, fun c2 => ?_⟩⟩
  · rw [decide_eq_false (fa_of_lt c).2.1, Bool.false_and] at h; exact h
  · rw [decide_eq_false (fa_of_lt c2).2.1, Bool.and_false] at h; exact h
  · rw [decide_eq_true (fa_of_nlt c), decide_eq_true (fa_of_nlt c2)] at h; exact h
/-- that the class's token is t -/
def CTk (w : Wd) (buf : Nat → Int32) (lim : Nat) (t : Tk) : Prop := gI w 1 3 = nI lim ∧ gI w 1 4 = nI t.en ∧ gI w 1 5 = nI t.kd ∧ gI w 1 6 = nI t.st ∧ (t.kd = 3 → gI w 1 7 = nI t.nm) ∧ ∀ i, i < lim → gA w 2 i = buf i
set_option maxHeartbeats 4000000 in
theorem wh_nextToken {w : Wd} {buf : Nat → Int32} {lim a : Nat} {Post : Wd → Prop} (hlim : lim ≤ 400) (e3 : gI w 1 3 = nI lim) (e4 : gI w 1 4 = nI a) (ha : a ≤ lim) (hb : ∀ i, i < lim → gA w 2 i = buf i) (h : ∀ w', FrN w w' → CTk w' buf lim (tokN buf lim a) → Post w') : wp_X1_nextToken w Post := by
  unfold wp_X1_nextToken
  intro J0 J166 J81 h0 h166 h81
  have fin : ∀ (w' : Wd) (t : Tk), FrN w w' → t = tokN buf lim a → gI w' 1 4 = nI t.en → gI w' 1 5 = nI t.kd → gI w' 1 6 = nI t.st → (t.kd = 3 → gI w' 1 7 = nI t.nm) → Post w' := by
    intro w' t hF e g4 g5 g6 g7
    subst e
    exact h w' hF ⟨(hF.1 1 3 (by omega)).trans e3, g4, g5, g6, g7, fun i hi => (hF.2.1 2 i).trans (hb i hi)⟩
  have letters : ∀ k p s, p + k = lim → s ≤ p → tokN buf lim a = (s, run lB buf lim p, if run lB buf lim p - s ≤ 8 then 2 else 1, 0) → ∀ w', FrN w w' → gI w' 1 4 = nI p → gI w' 1 6 = nI s → J81 w' := by
    intro k
    have out : ∀ p s, p ≤ lim → s ≤ p → tokN buf lim a = (s, p, if p - s ≤ 8 then 2 else 1, 0) → ∀ w', FrN w w' → gI w' 1 4 = nI p → gI w' 1 6 = nI s → (8 < gI w' 1 4 - gI w' 1 6 → Post (sI w' 1 5 1)) ∧ (¬ 8 < gI w' 1 4 - gI w' 1 6 → Post (sI w' 1 5 2)) := by
      intro p s hp hs ht w' hF g4 g6
      rw [g4, g6, pk_sub hs]
      refine ⟨fun c => ?_, fun c => ?_⟩
      · simp (disch := omega) only [fa_lit, nI_ltI] at c
        refine fin _ (s, p, 1, 0) (hF.tr (FrN.s _ 5 _ (by omega))) (by rw [ht, if_neg (by omega)]) ?_ ?_ ?_ (fun q => absurd q (by show ¬ 1 = 3; omega))
        · rw [gI_sI, if_neg (by omega)]; exact g4
        · rw [gI_sI, if_pos ⟨rfl, rfl⟩]; rfl
        · rw [gI_sI, if_neg (by omega)]; exact g6
      · simp (disch := omega) only [fa_lit, nI_ltI] at c
        refine fin _ (s, p, 2, 0) (hF.tr (FrN.s _ 5 _ (by omega))) (by rw [ht, if_pos (by omega)]) ?_ ?_ ?_ (fun q => absurd q (by show ¬ 2 = 3; omega))
        · rw [gI_sI, if_neg (by omega)]; exact g4
        · rw [gI_sI, if_pos ⟨rfl, rfl⟩]; rfl
        · rw [gI_sI, if_neg (by omega)]; exact g6
    induction k with
    | zero =>
      intro p s hp hs ht w' hF g4 g6
      rw [run_stop (by omega)] at ht
      refine h81 _ ⟨fun _ => out p s (by omega) hs ht w' hF g4 g6, fun c => ?_⟩
      rw [g4, hF.1 1 3 (by omega), e3] at c
      simp (disch := omega) only [nI_leI] at c
      omega
    | succ k ih =>
      intro p s hp hs ht w' hF g4 g6
      refine h81 _ ⟨fun c => ?_, fun _ => ?_⟩
      · rw [g4, hF.1 1 3 (by omega), e3] at c
        simp (disch := omega) only [nI_leI] at c
        omega
      rw [g4, nI_clamp (by omega), hF.2.1, hb p (by omega)]
      refine ⟨pk_in p 400 (by omega), wh_isLetter ?_⟩
      rw [bI_0]
      refine ⟨fun c => ?_, fun c y e => ?_⟩
      · rw [run_stop (by rw [c]; simp)] at ht
        exact out p s (by omega) hs ht w' hF g4 g6
      · have c' : lB (buf p) = true := by simpa using c
        rw [run_go (by omega) c'] at ht
        rw [g4, nI_1] at e
        subst e
        exact ih (p + 1) s (by omega) (by omega) ht _ (hF.tr (FrN.s _ 4 _ (by omega))) (by rw [gI_sI, if_pos ⟨rfl, rfl⟩]) (by rw [gI_sI, if_neg (by omega)]; exact g6)
  have digits : ∀ k p s, p + k = lim → s ≤ p → tokN buf lim a = (s, run dB buf lim p, if run dB buf lim p - s ≤ 2 then 3 else 1, nmN buf s (run dB buf lim p)) → (∀ i, s ≤ i → i < p → dB (buf i) = true) → s < lim → dB (buf s) = true → ∀ w', FrN w w' → gI w' 1 4 = nI p → gI w' 1 6 = nI s → (p = s → gI w' 1 7 = 0) → (p = s + 1 → gI w' 1 7 = nI (dv (buf s))) → (p = s + 2 → gI w' 1 7 = nI (10 * dv (buf s) + dv (buf (s + 1)))) → J166 w' := by
    intro k
    have out : ∀ p s, p ≤ lim → s < p → tokN buf lim a = (s, p, if p - s ≤ 2 then 3 else 1, nmN buf s p) → ∀ w', FrN w w' → gI w' 1 4 = nI p → gI w' 1 6 = nI s → (p = s + 1 → gI w' 1 7 = nI (dv (buf s))) → (p = s + 2 → gI w' 1 7 = nI (10 * dv (buf s) + dv (buf (s + 1)))) → (2 < gI w' 1 4 - gI w' 1 6 → Post (sI w' 1 5 1)) ∧ (¬ 2 < gI w' 1 4 - gI w' 1 6 → Post (sI w' 1 5 3)) := by
      intro p s hp hs ht w' hF g4 g6 g1 g2
      rw [g4, g6, pk_sub (by omega)]
      refine ⟨fun c => ?_, fun c => ?_⟩
      · simp (disch := omega) only [fa_lit, nI_ltI] at c
        refine fin _ (s, p, 1, nmN buf s p) (hF.tr (FrN.s _ 5 _ (by omega))) (by rw [ht, if_neg (by omega)]) ?_ ?_ ?_ (fun q => absurd q (by show ¬ 1 = 3; omega))
        · rw [gI_sI, if_neg (by omega)]; exact g4
        · rw [gI_sI, if_pos ⟨rfl, rfl⟩]; rfl
        · rw [gI_sI, if_neg (by omega)]; exact g6
      · simp (disch := omega) only [fa_lit, nI_ltI] at c
        refine fin _ (s, p, 3, nmN buf s p) (hF.tr (FrN.s _ 5 _ (by omega))) (by rw [ht, if_pos (by omega)]) ?_ ?_ ?_ (fun _ => ?_)
        · rw [gI_sI, if_neg (by omega)]; exact g4
        · rw [gI_sI, if_pos ⟨rfl, rfl⟩]; rfl
        · rw [gI_sI, if_neg (by omega)]; exact g6
        · rw [gI_sI, if_neg (by omega)]
          show _ = nI (nmN buf s p)
          unfold nmN
          by_cases q : p = s + 1
          · rw [if_pos q]; exact g1 q
          · rw [if_neg q]; exact g2 (by omega)
    induction k with
    | zero =>
      intro p s hp hs ht hall hsl hds w' hF g4 g6 g0 g1 g2
      rw [run_stop (by omega)] at ht
      refine h166 _ ⟨fun _ => out p s (by omega) (by omega) ht w' hF g4 g6 g1 g2, fun c => ?_⟩
      rw [g4, hF.1 1 3 (by omega), e3] at c
      simp (disch := omega) only [nI_leI] at c
      omega
    | succ k ih =>
      intro p s hp hs ht hall hsl hds w' hF g4 g6 g0 g1 g2
      refine h166 _ ⟨fun c => ?_, fun _ => ?_⟩
      · rw [g4, hF.1 1 3 (by omega), e3] at c
        simp (disch := omega) only [nI_leI] at c
        omega
      rw [g4, nI_clamp (by omega), hF.2.1, hb p (by omega)]
      refine ⟨pk_in p 400 (by omega), wh_isDigit ?_⟩
      rw [bI_0]
      refine ⟨fun c => ?_, fun c => ?_⟩
      · have hps : p ≠ s := fun e => by rw [e, hds] at c; cases c
        rw [run_stop (by rw [c]; simp)] at ht
        exact out p s (by omega) (by omega) ht w' hF g4 g6 g1 g2
      · have c' : dB (buf p) = true := by simpa using c
        obtain ⟨d1, d2⟩ := dB_at c'
        rw [run_go (by omega) c'] at ht
        rw [g4, nI_clamp (by omega), hF.2.1, hb p (by omega)]
        refine ⟨pk_in p 400 (by omega), fun y8 e8 y9 e9 => ?_⟩
        have num : ∀ v, gI w' 1 7 = nI v → y8 = nI (10 * v + dv (buf p)) := fun v hv => by
          rw [e8, hv, d1, show (10 * nI v) + nI (48 + dv (buf p)) = (nI 10 * nI v) + nI (48 + dv (buf p)) from rfl, pk_mul, nI_add, show nI (10 * v + (48 + dv (buf p))) - 48 = nI (10 * v + (48 + dv (buf p)) - 48) from pk_sub (b := 48) (by omega), ← d1]
          exact congrArg nI (by omega)
        rw [gI_sI, if_neg (by omega), g4, nI_1] at e9
        subst e9
        refine ih (p + 1) s (by omega) (by omega) ht (fun i i1 i2 => ?_) hsl hds _ ((hF.tr (FrN.s _ 7 _ (by omega))).tr (FrN.s _ 4 _ (by omega))) (by rw [gI_sI, if_pos ⟨rfl, rfl⟩]) (by rw [gI_sI, if_neg (by omega), gI_sI, if_neg (by omega)]; exact g6) (fun q => by omega) (fun q => ?_) (fun q => ?_)
        · by_cases e : i = p
          · rw [e]; exact c'
          · exact hall i i1 (by omega)
        · have hps : p = s := by omega
          rw [gI_sI, if_neg (by omega), gI_sI, if_pos ⟨rfl, rfl⟩, num 0 (g0 hps), hps]
          exact congrArg nI (by omega)
        · have hps : p = s + 1 := by omega
          rw [gI_sI, if_neg (by omega), gI_sI, if_pos ⟨rfl, rfl⟩, num _ (g1 hps), hps]
  have body : ∀ s, s ≤ lim → tokN buf lim a = tok1 buf lim s → ∀ w', FrN w w' → gI w' 1 4 = nI s → gI w' 1 6 = nI s → ((gI w' 1 4 < gI w' 1 3 → (vp_in (gI w' 1 4) 400 ∧ (wp_X1_isLetter w' (gA w' 2 ((gI w' 1 4).toNatClampNeg)) (fun r1 w1 => (r1 = 0 → (vp_in (gI w1 1 4) 400 ∧ (wp_X1_isDigit w1 (gA w1 2 ((gI w1 1 4).toNatClampNeg)) (fun r2 w2 => (r2 = 0 → (vp_in (gI w2 1 4) 400 ∧ (((gA w2 2 ((gI w2 1 4).toNatClampNeg)) = 59 → (∀ y3 : Int32, y3 = (gI (sI w2 1 5 4) 1 4) + 1 → (Post (sI (sI w2 1 5 4) 1 4 y3)))) ∧ (¬ (gA w2 2 ((gI w2 1 4).toNatClampNeg)) = 59 → (∀ y2 : Int32, y2 = (gI (sI w2 1 5 1) 1 4) + 1 → (Post (sI (sI w2 1 5 1) 1 4 y2))))))) ∧ (¬ r2 = 0 → (J166 (sI w2 1 7 0))))))) ∧ (¬ r1 = 0 → (J81 w1)))))) ∧ (¬ gI w' 1 4 < gI w' 1 3 → (Post (sI w' 1 5 0)))) := by
    intro s hs ht w' hF g4 g6
    rw [hF.1 1 3 (by omega), e3, g4]
    unfold tok1 at ht
    refine ⟨fun c => ?_, fun c => ?_⟩
    · simp (disch := omega) only [nI_ltI] at c
      rw [if_neg (by omega)] at ht
      rw [nI_clamp (by omega), hF.2.1, hb s c]
      refine ⟨pk_in s 400 (by omega), wh_isLetter ?_⟩
      rw [bI_0]
      refine ⟨fun c2 => ?_, fun c2 => ?_⟩
      · rw [if_neg (by rw [c2]; decide)] at ht
        rw [g4, nI_clamp (by omega), hF.2.1, hb s c]
        refine ⟨pk_in s 400 (by omega), wh_isDigit ?_⟩
        rw [bI_0]
        refine ⟨fun c3 => ?_, fun c3 => ?_⟩
        · rw [if_neg (by rw [c3]; decide)] at ht
          rw [g4, nI_clamp (by omega), hF.2.1, hb s c]
          refine ⟨pk_in s 400 (by omega), fun c4 y e => ?_, fun c4 y e => ?_⟩
          · rw [gI_sI, if_neg (by omega), g4, nI_1] at e
            subst e
            refine fin _ (s, s + 1, 4, 0) ((hF.tr (FrN.s _ 5 _ (by omega))).tr (FrN.s _ 4 _ (by omega))) (by rw [ht, if_pos c4]) ?_ ?_ ?_ (fun q => absurd q (by show ¬ 4 = 3; omega))
            · rw [gI_sI, if_pos ⟨rfl, rfl⟩]; rfl
            · rw [gI_sI, if_neg (by omega), gI_sI, if_pos ⟨rfl, rfl⟩]; rfl
            · rw [gI_sI, if_neg (by omega), gI_sI, if_neg (by omega)]; exact g6
          · rw [gI_sI, if_neg (by omega), g4, nI_1] at e
            subst e
            refine fin _ (s, s + 1, 1, 0) ((hF.tr (FrN.s _ 5 _ (by omega))).tr (FrN.s _ 4 _ (by omega))) (by rw [ht, if_neg c4]) ?_ ?_ ?_ (fun q => absurd q (by show ¬ 1 = 3; omega))
            · rw [gI_sI, if_pos ⟨rfl, rfl⟩]; rfl
            · rw [gI_sI, if_neg (by omega), gI_sI, if_pos ⟨rfl, rfl⟩]; rfl
            · rw [gI_sI, if_neg (by omega), gI_sI, if_neg (by omega)]; exact g6
        · have c3' : dB (buf s) = true := by simpa using c3
          rw [if_pos c3'] at ht
          refine digits (lim - s) s s (by omega) (Nat.le_refl _) ht (fun i i1 i2 => by omega) c c3' _ (hF.tr (FrN.s _ 7 _ (by omega))) (by rw [gI_sI, if_neg (by omega)]; exact g4) (by rw [gI_sI, if_neg (by omega)]; exact g6) (fun _ => by rw [gI_sI, if_pos ⟨rfl, rfl⟩]) (fun q => by omega) (fun q => by omega)
      · have c2' : lB (buf s) = true := by simpa using c2
        rw [if_pos c2'] at ht
        exact letters (lim - s) s s (by omega) (Nat.le_refl _) ht w' hF g4 g6
    · simp (disch := omega) only [nI_ltI] at c
      rw [if_pos (by omega)] at ht
      refine fin _ (s, s, 0, 0) (hF.tr (FrN.s _ 5 _ (by omega))) ht.symm ?_ ?_ ?_ (fun q => absurd q (by show ¬ 0 = 3; omega))
      · rw [gI_sI, if_neg (by omega)]; exact g4
      · rw [gI_sI, if_pos ⟨rfl, rfl⟩]; rfl
      · rw [gI_sI, if_neg (by omega)]; exact g6
  have white : ∀ k p, p + k = lim → tokN buf lim a = tok1 buf lim (run wB buf lim p) → ∀ w', FrN w w' → gI w' 1 4 = nI p → J0 w' := by
    intro k
    induction k with
    | zero =>
      intro p hp ht w' hF g4
      rw [run_stop (by omega)] at ht
      refine h0 _ ⟨fun _ y1 e1 => ?_, fun c => ?_⟩
      · rw [g4] at e1
        subst e1
        exact body p (by omega) ht _ (hF.tr (FrN.s _ 6 _ (by omega))) (by rw [gI_sI, if_neg (by omega)]; exact g4) (by rw [gI_sI, if_pos ⟨rfl, rfl⟩])
      · rw [g4, hF.1 1 3 (by omega), e3] at c
        simp (disch := omega) only [nI_leI] at c
        omega
    | succ k ih =>
      intro p hp ht w' hF g4
      refine h0 _ ⟨fun c => ?_, fun _ => ?_⟩
      · rw [g4, hF.1 1 3 (by omega), e3] at c
        simp (disch := omega) only [nI_leI] at c
        omega
      have h33 : vp_in (gI w' 1 4) 400 := by rw [g4]; exact pk_in p 400 (by omega)
      refine ⟨h33, ?_⟩
      have hbyte : gA w' 2 ((gI w' 1 4).toNatClampNeg) = buf p := by rw [g4, nI_clamp (by omega), hF.2.1, hb p (by omega)]
      rw [hbyte]
      refine wh_isWhite ?_
      rw [bI_0]
      refine ⟨fun c y4 e4 => ?_, fun c y e => ?_⟩
      · rw [run_stop (by rw [c]; simp)] at ht
        rw [g4] at e4
        subst e4
        exact body p (by omega) ht _ (hF.tr (FrN.s _ 6 _ (by omega))) (by rw [gI_sI, if_neg (by omega)]; exact g4) (by rw [gI_sI, if_pos ⟨rfl, rfl⟩])
      · have c' : wB (buf p) = true := by simpa using c
        rw [run_go (by omega) c'] at ht
        rw [g4, nI_1] at e
        subst e
        exact ih (p + 1) (by omega) ht _ (hF.tr (FrN.s _ 4 _ (by omega))) (by rw [gI_sI, if_pos ⟨rfl, rfl⟩])
  exact white (lim - a) a (by omega) rfl w (FrN.rf w) e4

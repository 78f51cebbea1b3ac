/-! the model's tokens -/
/-- a stored byte -/
def byI (b : Int32) : Prop := -128 ≤ b.toInt ∧ b.toInt < 128
def byC (b : Int32) : Bool := decide (b &&& 255 = 32 ↔ b = 32) && (decide (b &&& 255 = 10 ↔ b = 10) && (decide (b &&& 255 = 59 ↔ b = 59) && (decide (¬ b &&& 255 = -1) && (decide (¬ (b &&& 255 < 97 ∨ 122 < b &&& 255) ↔ lB b = true) && (decide (¬ (b &&& 255 < 48 ∨ 57 < b &&& 255) ↔ dB b = true) && decide (dB b = true → b &&& 255 = b))))))
theorem by_all : allB 256 (fun n => byC (Int32.ofInt ((n : Int) - 128))) = true := by decide +kernel
theorem by_sp {b : Int32} (h : byI b) : (b &&& 255 = 32 ↔ b = 32) ∧ (b &&& 255 = 10 ↔ b = 10) ∧ (b &&& 255 = 59 ↔ b = 59) ∧ (¬ b &&& 255 = -1) ∧ (¬ (b &&& 255 < 97 ∨ 122 < b &&& 255) ↔ lB b = true) ∧ (¬ (b &&& 255 < 48 ∨ 57 < b &&& 255) ↔ dB b = true) ∧ (dB b = true → b &&& 255 = b) := by
  have h1 := allB_at by_all (i := (b.toInt + 128).toNat) (by have := h.1; have := h.2; omega)
  have e : Int32.ofInt (((b.toInt + 128).toNat : Int) - 128) = b := by
    have := h.1
    rw [show ((b.toInt + 128).toNat : Int) - 128 = b.toInt by omega]
    exact Int32.ofInt_toInt b
  have h1 : byC (Int32.ofInt (((b.toInt + 128).toNat : Int) - 128)) = true := h1
  rw [e] at h1
  unfold byC at h1
  simp only [Bool.and_eq_true, decide_eq_true_eq] at h1
  exact h1
def mK (k : Nat) : Nat := if k = 0 then 0 else if k = 1 then 4 else k - 1
theorem wm_byteAt {w : Wd} {buf : Nat → Int32} {lim p : Nat} {Post : Int32 → Wd → Prop} (hlim : lim ≤ 400) (e3 : gI w 15 3 = nI lim) (hp : p ≤ lim) (hb : ∀ i, i < lim → gA w 16 i = buf i) (h0 : lim ≤ p → Post (-1) w) (h1 : p < lim → Post (buf p &&& 255) w) : wp_X9_byteAt w (nI p) Post := by
  unfold wp_X9_byteAt
  rw [e3]
  refine ⟨fun c => ?_, fun c => ?_⟩
  · simp (disch := omega) only [nI_leI] at c
    exact h0 c
  · simp (disch := omega) only [nI_leI] at c
    rw [nI_clamp (by omega), hb p (by omega)]
    exact ⟨pk_in p 400 (by omega), h1 (by omega)⟩
/-- all but the model's token -/
def FrP (w w' : Wd) : Prop := (∀ o k, ¬ (o = 15 ∧ 4 ≤ k ∧ k ≤ 7) → gI w' o k = gI w o k) ∧ (∀ o i, gA w' o i = gA w o i)
theorem FrP.rf (w : Wd) : FrP w w := ⟨fun _ _ _ => rfl, fun _ _ => rfl⟩
theorem FrP.tr {a b c : Wd} (h : FrP a b) (g : FrP b c) : FrP a c := ⟨fun o s q => (g.1 o s q).trans (h.1 o s q), fun o i => (g.2 o i).trans (h.2 o i)⟩
theorem FrP.s (w : Wd) (k : Nat) (x : Int32) (h : 4 ≤ k ∧ k ≤ 7) : FrP w (sI w 15 k x) := ⟨fun o j q => by rw [gI_sI, if_neg (by omega)], fun _ _ => rfl⟩
def MTk (w : Wd) (buf : Nat → Int32) (lim : Nat) (t : Tk) : Prop := gI w 15 3 = nI lim ∧ gI w 15 4 = nI t.st ∧ gI w 15 5 = nI t.en ∧ gI w 15 6 = nI (mK t.kd) ∧ (t.kd = 3 → gI w 15 7 = nI t.nm) ∧ ∀ i, i < lim → gA w 16 i = buf i
set_option maxHeartbeats 4000000 in
theorem wm_nextToken {w : Wd} {buf : Nat → Int32} {lim a : Nat} {Post : Wd → Prop} (hlim : lim ≤ 400) (hby : ∀ i, i < lim → byI (buf i)) (e3 : gI w 15 3 = nI lim) (e5 : gI w 15 5 = nI a) (ha : a ≤ lim) (hb : ∀ i, i < lim → gA w 16 i = buf i) (h : ∀ w', FrP w w' → MTk w' buf lim (tokN buf lim a) → Post w') : wp_X9_nextToken w Post := by
  unfold wp_X9_nextToken
  intro J8 J166 J93 h8 h166 h93
  have fin : ∀ (w' : Wd) (t : Tk), FrP w w' → t = tokN buf lim a → gI w' 15 4 = nI t.st → gI w' 15 5 = nI t.en → gI w' 15 6 = nI (mK t.kd) → (t.kd = 3 → gI w' 15 7 = nI t.nm) → Post w' := by
    intro w' t hF e g4 g5 g6 g7
    subst e
    exact h w' hF ⟨(hF.1 15 3 (by omega)).trans e3, g4, g5, g6, g7, fun i hi => (hF.2 16 i).trans (hb i hi)⟩
  have letters : ∀ k p s, p + k = lim → s ≤ p → tokN buf lim a = (s, run lB buf lim p, if run lB buf lim p - s ≤ 8 then 2 else 1, 0) → ∀ w', FrP w w' → gI w' 15 5 = nI p → gI w' 15 4 = nI s → J93 w' := by
    intro k
    have out : ∀ p s, p ≤ lim → s ≤ p → tokN buf lim a = (s, p, if p - s ≤ 8 then 2 else 1, 0) → ∀ w', FrP w w' → gI w' 15 5 = nI p → gI w' 15 4 = nI s → (gI w' 15 5 - gI w' 15 4 ≤ 8 → Post (sI w' 15 6 1)) ∧ (¬ gI w' 15 5 - gI w' 15 4 ≤ 8 → Post (sI w' 15 6 4)) := by
      intro p s hp hs ht w' hF g5 g4
      rw [g5, g4, pk_sub hs]
      refine ⟨fun c => ?_, fun c => ?_⟩
      · simp (disch := omega) only [fa_lit, nI_leI] at c
        refine fin _ (s, p, 2, 0) (hF.tr (FrP.s _ 6 _ (by omega))) (by rw [ht, if_pos (by omega)]) ?_ ?_ ?_ (fun q => absurd q (by show ¬ 2 = 3; omega))
        · rw [gI_sI, if_neg (by omega)]; exact g4
        · rw [gI_sI, if_neg (by omega)]; exact g5
        · rw [gI_sI, if_pos ⟨rfl, rfl⟩]; rfl
      · simp (disch := omega) only [fa_lit, nI_leI] at c
        refine fin _ (s, p, 1, 0) (hF.tr (FrP.s _ 6 _ (by omega))) (by rw [ht, if_neg (by omega)]) ?_ ?_ ?_ (fun q => absurd q (by show ¬ 1 = 3; omega))
        · rw [gI_sI, if_neg (by omega)]; exact g4
        · rw [gI_sI, if_neg (by omega)]; exact g5
        · rw [gI_sI, if_pos ⟨rfl, rfl⟩]; rfl
    induction k with
    | zero =>
      intro p s hp hs ht w' hF g5 g4
      rw [run_stop (by omega)] at ht
      refine h93 _ ?_
      rw [g5]
      refine wm_byteAt hlim ((hF.1 15 3 (by omega)).trans e3) (by omega) (fun i hi => (hF.2 16 i).trans (hb i hi)) (fun _ => ?_) (fun c => by omega)
      exact wm_within (fun _ => ⟨fun _ => out p s (by omega) hs ht w' hF g5 g4, fun q => absurd rfl q⟩) (fun q => absurd (Or.inl (by decide)) q)
    | succ k ih =>
      intro p s hp hs ht w' hF g5 g4
      refine h93 _ ?_
      rw [g5]
      refine wm_byteAt hlim ((hF.1 15 3 (by omega)).trans e3) (by omega) (fun i hi => (hF.2 16 i).trans (hb i hi)) (fun c => by omega) (fun hpl => ?_)
      obtain ⟨y1, y2, y3, y4, y5, y6, y7⟩ := by_sp (hby p hpl)
      refine wm_within (fun c => ⟨fun _ => ?_, fun q => absurd rfl q⟩) (fun c => ⟨fun q => absurd q (by decide), fun _ y e => ?_⟩)
      · have c' : ¬ lB (buf p) = true := fun q => (y5.mpr q) c
        rw [run_stop (fun q => c' q.2)] at ht
        exact out p s (by omega) hs ht w' hF g5 g4
      · rw [run_go hpl (y5.mp c)] at ht
        rw [g5, nI_1] at e
        subst e
        exact ih (p + 1) s (by omega) (by omega) ht _ (hF.tr (FrP.s _ 5 _ (by omega))) (by rw [gI_sI, if_pos ⟨rfl, rfl⟩]) (by rw [gI_sI, if_neg (by omega)]; exact g4)
  have digits : ∀ k p s, p + k = lim → s ≤ p → tokN buf lim a = (s, run dB buf lim p, if run dB buf lim p - s ≤ 2 then 3 else 1, nmN buf s (run dB buf lim p)) → s < lim → dB (buf s) = true → ∀ w', FrP w w' → gI w' 15 5 = nI p → gI w' 15 4 = nI s → (p = s → gI w' 15 7 = 0) → (p = s + 1 → gI w' 15 7 = nI (dv (buf s))) → (p = s + 2 → gI w' 15 7 = nI (10 * dv (buf s) + dv (buf (s + 1)))) → J166 w' := by
    intro k
    have out : ∀ p s, p ≤ lim → s < p → tokN buf lim a = (s, p, if p - s ≤ 2 then 3 else 1, nmN buf s p) → ∀ w', FrP w w' → gI w' 15 5 = nI p → gI w' 15 4 = nI s → (p = s + 1 → gI w' 15 7 = nI (dv (buf s))) → (p = s + 2 → gI w' 15 7 = nI (10 * dv (buf s) + dv (buf (s + 1)))) → (gI w' 15 5 - gI w' 15 4 ≤ 2 → Post (sI w' 15 6 2)) ∧ (¬ gI w' 15 5 - gI w' 15 4 ≤ 2 → Post (sI w' 15 6 4)) := by
      intro p s hp hs ht w' hF g5 g4 g1 g2
      rw [g5, g4, pk_sub (by omega)]
      refine ⟨fun c => ?_, fun c => ?_⟩
      · simp (disch := omega) only [fa_lit, nI_leI] at c
        refine fin _ (s, p, 3, nmN buf s p) (hF.tr (FrP.s _ 6 _ (by omega))) (by rw [ht, if_pos (by omega)]) ?_ ?_ ?_ (fun _ => ?_)
        · rw [gI_sI, if_neg (by omega)]; exact g4
        · rw [gI_sI, if_neg (by omega)]; exact g5
        · rw [gI_sI, if_pos ⟨rfl, rfl⟩]; rfl
        · rw [gI_sI, if_neg (by omega)]
          show _ = nI (nmN buf s p)
          unfold nmN
          by_cases q : p = s + 1
          · rw [if_pos q]; exact g1 q
          · rw [if_neg q]; exact g2 (by omega)
      · simp (disch := omega) only [fa_lit, nI_leI] at c
        refine fin _ (s, p, 1, nmN buf s p) (hF.tr (FrP.s _ 6 _ (by omega))) (by rw [ht, if_neg (by omega)]) ?_ ?_ ?_ (fun q => absurd q (by show ¬ 1 = 3; omega))
        · rw [gI_sI, if_neg (by omega)]; exact g4
        · rw [gI_sI, if_neg (by omega)]; exact g5
        · rw [gI_sI, if_pos ⟨rfl, rfl⟩]; rfl
    induction k with
    | zero =>
      intro p s hp hs ht hsl hds w' hF g5 g4 g0 g1 g2
      rw [run_stop (by omega)] at ht
      refine h166 _ ?_
      rw [g5]
      refine wm_byteAt hlim ((hF.1 15 3 (by omega)).trans e3) (by omega) (fun i hi => (hF.2 16 i).trans (hb i hi)) (fun _ => ?_) (fun c => by omega)
      exact wm_within (fun _ => ⟨fun _ => out p s (by omega) (by omega) ht w' hF g5 g4 g1 g2, fun q => absurd rfl q⟩) (fun q => absurd (Or.inl (by decide)) q)
    | succ k ih =>
      intro p s hp hs ht hsl hds w' hF g5 g4 g0 g1 g2
      refine h166 _ ?_
      rw [g5]
      refine wm_byteAt hlim ((hF.1 15 3 (by omega)).trans e3) (by omega) (fun i hi => (hF.2 16 i).trans (hb i hi)) (fun c => by omega) (fun hpl => ?_)
      obtain ⟨y1, y2, y3, y4, y5, y6, y7⟩ := by_sp (hby p hpl)
      refine wm_within (fun c => ⟨fun _ => ?_, fun q => absurd rfl q⟩) (fun c => ⟨fun q => absurd q (by decide), fun _ => ?_⟩)
      · have c' : ¬ dB (buf p) = true := fun q => (y6.mpr q) c
        have hps : p ≠ s := fun e => by rw [e] at c'; exact c' hds
        rw [run_stop (fun q => c' q.2)] at ht
        exact out p s (by omega) (by omega) ht w' hF g5 g4 g1 g2
      · have c' := y6.mp c
        obtain ⟨d1, d2⟩ := dB_at c'
        rw [run_go hpl c'] at ht
        rw [g5, g4, pk_sub hs]
        refine ⟨fun c2 y6 e6 y7 e7 => ?_, fun c2 => ?_⟩
        · simp (disch := omega) only [fa_lit, nI_leI] at c2
          rw [gI_sI, if_neg (by omega), g5, nI_1] at e7
          subst e7
          exact ih (p + 1) s (by omega) (by omega) ht hsl hds _ ((hF.tr (FrP.s _ 7 _ (by omega))).tr (FrP.s _ 5 _ (by omega))) (by rw [gI_sI, if_pos ⟨rfl, rfl⟩]) (by rw [gI_sI, if_neg (by omega), gI_sI, if_neg (by omega)]; exact g4) (fun q => by omega) (fun q => by omega) (fun q => by omega)
        · simp (disch := omega) only [fa_lit, nI_leI] at c2
          refine wm_byteAt hlim ((hF.1 15 3 (by omega)).trans e3) (by omega) (fun i hi => (hF.2 16 i).trans (hb i hi)) (fun c => by omega) (fun _ y8 e8 y9 e9 => ?_)
          rw [y7 c'] at e8
          have num : ∀ v, gI w' 15 7 = nI v → y8 = nI (10 * v + dv (buf p)) := fun v hv => by
            rw [e8, hv, d1, show (10 * nI v) + nI (48 + dv (buf p)) = (nI 10 * nI v) + nI (48 + dv (buf p)) from rfl, pk_mul, nI_add, show nI (10 * v + (48 + dv (buf p))) - 48 = nI (10 * v + (48 + dv (buf p)) - 48) from pk_sub (b := 48) (by omega), ← d1]
            exact congrArg nI (by omega)
          rw [gI_sI, if_neg (by omega), g5, nI_1] at e9
          subst e9
          refine ih (p + 1) s (by omega) (by omega) ht hsl hds _ ((hF.tr (FrP.s _ 7 _ (by omega))).tr (FrP.s _ 5 _ (by omega))) (by rw [gI_sI, if_pos ⟨rfl, rfl⟩]) (by rw [gI_sI, if_neg (by omega), gI_sI, if_neg (by omega)]; exact g4) (fun q => by omega) (fun q => ?_) (fun q => ?_)
          · have hps : p = s := by omega
            rw [gI_sI, if_neg (by omega), gI_sI, if_pos ⟨rfl, rfl⟩, num 0 (g0 hps), hps]
            exact congrArg nI (by omega)
          · have hps : p = s + 1 := by omega
            rw [gI_sI, if_neg (by omega), gI_sI, if_pos ⟨rfl, rfl⟩, num _ (g1 hps), hps]
  have white : ∀ k p, p + k = lim → tokN buf lim a = tok1 buf lim (run wB buf lim p) → ∀ w', FrP w w' → gI w' 15 4 = nI p → J8 w' := by
    intro k
    induction k with
    | zero =>
      intro p hp ht w' hF g4
      rw [run_stop (by omega)] at ht
      unfold tok1 at ht
      rw [if_pos (by omega)] at ht
      have eb : ∀ (w2 : Wd) (P : Int32 → Wd → Prop), gI w2 15 3 = nI lim → P (-1) w2 → wp_X9_byteAt w2 (nI p) P := fun w2 P q hP => by
        unfold wp_X9_byteAt
        rw [q]
        refine ⟨fun _ => hP, fun c => ?_⟩
        simp (disch := omega) only [nI_leI] at c
        omega
      have g3 := (hF.1 15 3 (by omega)).trans e3
      refine h8 _ ?_
      rw [g4]
      refine eb _ _ g3 ⟨fun c => absurd c (by decide), fun _ => ?_⟩
      rw [g4]
      refine eb _ _ g3 ⟨fun c => absurd c (by decide), fun _ => ?_⟩
      rw [g4]
      refine eb _ _ g3 (fun y3 e => ⟨fun _ => ?_, fun c => absurd rfl c⟩)
      rw [g4] at e
      subst e
      refine fin _ (p, p, 0, 0) (((hF.tr (FrP.s _ 5 _ (by omega))).tr (FrP.s _ 6 _ (by omega))).tr (FrP.s _ 6 _ (by omega))) ht.symm ?_ ?_ ?_ (fun q => absurd q (by show ¬ 0 = 3; omega))
      · rw [gI_sI, if_neg (by omega), gI_sI, if_neg (by omega), gI_sI, if_neg (by omega)]; exact g4
      · rw [gI_sI, if_neg (by omega), gI_sI, if_neg (by omega), gI_sI, if_pos ⟨rfl, rfl⟩]; rfl
      · rw [gI_sI, if_pos ⟨rfl, rfl⟩]; rfl
    | succ k ih =>
      intro p hp ht w' hF g4
      have hpl : p < lim := by omega
      obtain ⟨q1, q2, q3, q4, q5, q6, q7⟩ := by_sp (hby p hpl)
      have g3 := (hF.1 15 3 (by omega)).trans e3
      have eb : ∀ (P : Int32 → Wd → Prop), P (buf p &&& 255) w' → wp_X9_byteAt w' (nI p) P := fun P hP => wm_byteAt hlim g3 (by omega) (fun i hi => (hF.2 16 i).trans (hb i hi)) (fun c => by omega) (fun _ => hP)
      have go : wB (buf p) = true → ∀ y, y = nI p + 1 → J8 (sI w' 15 4 y) := by
        intro c y e
        rw [run_go hpl c] at ht
        rw [nI_1] at e
        subst e
        exact ih (p + 1) (by omega) ht _ (hF.tr (FrP.s _ 4 _ (by omega))) (by rw [gI_sI, if_pos ⟨rfl, rfl⟩])
      refine h8 _ ?_
      rw [g4]
      refine eb _ ⟨fun c y e => go (by unfold wB; rw [decide_eq_true (q1.mp c)]; rfl) y (by rw [e, g4]), fun c => ?_⟩
      rw [g4]
      refine eb _ ⟨fun c2 y e => go (by unfold wB; rw [decide_eq_true (q2.mp c2), Bool.or_true]) y (by rw [e, g4]), fun c2 => ?_⟩
      have hw : ¬ wB (buf p) = true := by
        unfold wB
        rw [decide_eq_false (fun q => c (q1.mpr q)), decide_eq_false (fun q => c2 (q2.mpr q))]
        decide
      rw [run_stop (fun q => hw q.2)] at ht
      unfold tok1 at ht
      rw [if_neg (by omega)] at ht
      rw [g4]
      refine eb _ (fun y3 e => ⟨fun c3 => absurd c3 q4, fun _ => ?_⟩)
      rw [g4] at e
      subst e
      have hF2 : FrP w (sI (sI w' 15 5 (nI p)) 15 6 4) := (hF.tr (FrP.s _ 5 _ (by omega))).tr (FrP.s _ 6 _ (by omega))
      have k5 : gI (sI (sI w' 15 5 (nI p)) 15 6 4) 15 5 = nI p := by rw [gI_sI, if_neg (by omega), gI_sI, if_pos ⟨rfl, rfl⟩]
      have k4 : gI (sI (sI w' 15 5 (nI p)) 15 6 4) 15 4 = nI p := by rw [gI_sI, if_neg (by omega), gI_sI, if_neg (by omega)]; exact g4
      refine wm_within (fun c4 => ⟨fun _ => ?_, fun q => absurd rfl q⟩) (fun c4 => ⟨fun q => absurd q (by decide), fun _ => ?_⟩)
      · have nl : ¬ lB (buf p) = true := fun q => (q5.mpr q) c4
        rw [if_neg nl] at ht
        refine wm_within (fun c5 => ⟨fun _ y e => ?_, fun q => absurd rfl q⟩) (fun c5 => ⟨fun q => absurd q (by decide), fun _ => ?_⟩)
        · have nd : ¬ dB (buf p) = true := fun q => (q6.mpr q) c5
          rw [if_neg nd] at ht
          rw [k5, nI_1] at e
          subst e
          refine ⟨fun c6 => ?_, fun c6 => ?_⟩
          · rw [if_pos (q3.mp c6)] at ht
            refine fin _ (p, p + 1, 4, 0) ((hF2.tr (FrP.s _ 5 _ (by omega))).tr (FrP.s _ 6 _ (by omega))) ht.symm ?_ ?_ ?_ (fun q => absurd q (by show ¬ 4 = 3; omega))
            · rw [gI_sI, if_neg (by omega), gI_sI, if_neg (by omega)]; exact k4
            · rw [gI_sI, if_neg (by omega), gI_sI, if_pos ⟨rfl, rfl⟩]; rfl
            · rw [gI_sI, if_pos ⟨rfl, rfl⟩]; rfl
          · rw [if_neg (fun q => c6 (q3.mpr q))] at ht
            refine fin _ (p, p + 1, 1, 0) ((hF2.tr (FrP.s _ 5 _ (by omega))).tr (FrP.s _ 6 _ (by omega))) ht.symm ?_ ?_ ?_ (fun q => absurd q (by show ¬ 1 = 3; omega))
            · rw [gI_sI, if_neg (by omega), gI_sI, if_neg (by omega)]; exact k4
            · rw [gI_sI, if_neg (by omega), gI_sI, if_pos ⟨rfl, rfl⟩]; rfl
            · rw [gI_sI, if_pos ⟨rfl, rfl⟩]; rfl
        · have hd := q6.mp c5
          rw [if_pos hd] at ht
          exact digits (lim - p) p p (by omega) (Nat.le_refl _) ht hpl hd _ (hF2.tr (FrP.s _ 7 _ (by omega))) (by rw [gI_sI, if_neg (by omega)]; exact k5) (by rw [gI_sI, if_neg (by omega)]; exact k4) (fun _ => by rw [gI_sI, if_pos ⟨rfl, rfl⟩]) (fun q => by omega) (fun q => by omega)
      · rw [if_pos (q5.mp c4)] at ht
        exact letters (lim - p) p p (by omega) (Nat.le_refl _) ht _ hF2 k5 k4
  intro y1 e1
  rw [e5] at e1
  subst e1
  exact white (lim - a) a (by omega) rfl _ (FrP.s w 4 _ (by omega)) (by rw [gI_sI, if_pos ⟨rfl, rfl⟩])

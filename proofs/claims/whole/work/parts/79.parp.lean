/-! the model: a new game; parse, append -/
theorem wm_setDefaults {w : Wd} {Post : Wd → Prop} (h : ∀ w', MDr w' D0 → FrU w w' → gI w' 15 5 = gI w 15 5 → gI w' 15 8 = gI w 15 8 → Post w') : wp_X9_setDefaults w Post := by
  unfold wp_X9_setDefaults
  intro J2 J24 J31 h2 h24 h31
  -- the same but for the draft
  have dr : ∀ w' : Wd, (∀ o k, gI w' o k = gI w o k) → (∀ o i, o ≠ 17 → gA w' o i = gA w o i) → FrU w w' := fun w' a b => ⟨fun o k _ => a o k, b⟩
  have tk : ∀ k p, p + k = 2 → ∀ w', (∀ o k, gI w' o k = gI w o k) → (∀ o i, o ≠ 17 → gA w' o i = gA w o i) → (∀ i, i < 140 → gA w' 17 i = if 43 ≤ i ∧ i < 43 + 6 * p ∧ (i - 43) % 6 < 3 then 1 else 0) → J24 (nI p) w' := by
    intro k
    induction k with
    | zero =>
      intro p hp w' a b c
      obtain rfl : p = 2 := by omega
      refine h24 _ _ ⟨fun _ => ?_, fun c => absurd (by decide) c⟩
      have c0 : ∀ i, i < 140 → ¬ (43 ≤ i ∧ i < 55 ∧ (i - 43) % 6 < 3) → i ≠ 57 → gA (sI (sI (sA w' 17 57 (-1)) 15 11 0) 15 12 0) 17 i = 0 := fun i hi q q2 => by
        rw [gA_sI, gA_sI, gA_sA, if_neg (fun c => q2 c.2), c i hi, if_neg q]
      refine h _ ⟨c0 0 (by omega) (by omega) (by omega), fun l hl => absurd hl (Nat.not_lt_zero l), fun l hl _ => ⟨c0 _ (by omega) (by omega) (by omega), c0 _ (by omega) (by omega) (by omega)⟩, fun p hp k hk => ⟨?_, c0 _ (by omega) (by omega) (by omega)⟩, c0 55 (by omega) (by omega) (by omega), c0 56 (by omega) (by omega) (by omega), ?_, ?_, ?_⟩ ⟨fun o k q => ?_, fun o i q => ?_⟩ ?_ ?_
      · rw [gA_sI, gA_sI, gA_sA, if_neg (by omega), c _ (by omega), if_pos (by omega)]
        rfl
      · rw [gA_sI, gA_sI, gA_sA, if_pos ⟨rfl, rfl⟩]
      · rw [gI_sI, if_neg (by omega), gI_sI, if_pos ⟨rfl, rfl⟩]
        rfl
      · rw [gI_sI, if_pos ⟨rfl, rfl⟩]
        rfl
      · rw [gI_sI, if_neg (by omega), gI_sI, if_neg (by omega)]
        exact a o k
      · rw [gA_sI, gA_sI, gA_sA, if_neg (fun c => q c.1)]
        exact b o i q
      · rw [gI_sI, if_neg (by omega), gI_sI, if_neg (by omega)]
        exact a 15 5
      · rw [gI_sI, if_neg (by omega), gI_sI, if_neg (by omega)]
        exact a 15 8
    | succ k ih =>
      intro p hp w' a b c
      have inner : ∀ m j, j + m = 3 → ∀ w', (∀ o k, gI w' o k = gI w o k) → (∀ o i, o ≠ 17 → gA w' o i = gA w o i) → (∀ i, i < 140 → gA w' 17 i = if (43 ≤ i ∧ i < 43 + 6 * p ∧ (i - 43) % 6 < 3) ∨ (43 + 6 * p ≤ i ∧ i < 43 + 6 * p + j) then 1 else 0) → J31 (nI p) (nI j) w' := by
        intro m
        induction m with
        | zero =>
          intro j hj w' a b c
          obtain rfl : j = 3 := by omega
          refine h31 _ _ _ ⟨fun _ y e => ?_, fun c => absurd (by decide) c⟩
          subst e
          rw [nI_1]
          refine ih (p + 1) (by omega) w' a b (fun i hi => ?_)
          rw [c i hi]
          by_cases q : (43 ≤ i ∧ i < 43 + 6 * p ∧ (i - 43) % 6 < 3) ∨ (43 + 6 * p ≤ i ∧ i < 43 + 6 * p + 3)
          · rw [if_pos q, if_pos (by omega)]
          · rw [if_neg q, if_neg (by omega)]
        | succ m ihm =>
          intro j hj w' a b c
          refine h31 _ _ _ ⟨fun c => ?_, fun _ => ?_⟩
          · simp (disch := omega) only [fa_lit, nI_leI] at c
            omega
          · rw [tok_ix, nI_clamp (by omega)]
            refine ⟨pk_in (43 + 6 * p + j) 140 (by omega), fun y e => ?_⟩
            subst e
            rw [nI_1]
            refine ihm (j + 1) (by omega) _ (fun o k => a o k) (fun o i q => by rw [gA_sA, if_neg (fun c => q c.1)]; exact b o i q) (fun i hi => ?_)
            rw [gA_sA]
            by_cases q : i = 43 + 6 * p + j
            · rw [if_pos ⟨rfl, q⟩, if_pos (by omega)]
            · rw [if_neg (fun c => q c.2), c i hi]
              by_cases q2 : (43 ≤ i ∧ i < 43 + 6 * p ∧ (i - 43) % 6 < 3) ∨ (43 + 6 * p ≤ i ∧ i < 43 + 6 * p + j)
              · rw [if_pos q2, if_pos (by omega)]
              · rw [if_neg q2, if_neg (by omega)]
      refine h24 _ _ ⟨fun c => ?_, fun _ => ?_⟩
      · simp (disch := omega) only [fa_lit, nI_leI] at c
        omega
      · refine inner 3 0 (by omega) w' a b (fun i hi => ?_)
        rw [c i hi]
        by_cases q : 43 ≤ i ∧ i < 43 + 6 * p ∧ (i - 43) % 6 < 3
        · rw [if_pos q, if_pos (Or.inl q)]
        · rw [if_neg q, if_neg (fun q2 => q2.elim q (fun q2 => by omega))]
  have zero : ∀ k i, i + k = 140 → ∀ w', (∀ o k, gI w' o k = gI w o k) → (∀ o j, o ≠ 17 → gA w' o j = gA w o j) → (∀ j, j < i → gA w' 17 j = 0) → J2 (nI i) w' := by
    intro k
    induction k with
    | zero =>
      intro i hi w' a b c
      obtain rfl : i = 140 := by omega
      refine h2 _ _ ⟨fun _ => ?_, fun c => absurd (by decide) c⟩
      exact tk 2 0 (by omega) w' a b (fun j hj => by rw [if_neg (by omega)]; exact c j hj)
    | succ k ih =>
      intro i hi w' a b c
      refine h2 _ _ ⟨fun c => ?_, fun _ => ⟨pk_in i 140 (by omega), fun y e => ?_⟩⟩
      · simp (disch := omega) only [fa_lit, nI_leI] at c
        omega
      · subst e
        rw [nI_1, nI_clamp (by omega)]
        refine ih (i + 1) (by omega) _ (fun o k => a o k) (fun o j q => by rw [gA_sA, if_neg (fun c => q c.1)]; exact b o j q) (fun j hj => ?_)
        rw [gA_sA]
        by_cases q : j = i
        · rw [if_pos ⟨rfl, q⟩]
        · rw [if_neg (fun c => q c.2)]
          exact c j (by omega)
  exact zero 140 0 (by omega) w (fun _ _ => rfl) (fun _ _ _ => rfl) (fun j hj => absurd hj (Nat.not_lt_zero j))
theorem wm_takeDraft {w : Wd} {Post : Wd → Prop} (h : ∀ w', (∀ i, i < 140 → gA w' 18 i = gA w 17 i) → (∀ o i, o ≠ 18 → o ≠ 21 → gA w' o i = gA w o i) → gA w' 21 0 = 0 → gA w' 21 1 = 0 → (∀ o k, ¬ (o = 15 ∧ k = 15) → gI w' o k = gI w o k) → gI w' 15 15 = 0 → Post w') : wp_X9_takeDraft w Post := by
  unfold wp_X9_takeDraft
  intro J hJ
  have key : ∀ k i, i + k = 140 → ∀ w', (∀ o k, gI w' o k = gI w o k) → (∀ o j, o ≠ 18 → gA w' o j = gA w o j) → (∀ j, j < i → gA w' 18 j = gA w 17 j) → J (nI i) w' := by
    intro k
    induction k with
    | zero =>
      intro i hi w' a b c
      obtain rfl : i = 140 := by omega
      refine hJ _ _ ⟨fun _ => ?_, fun c => absurd (by decide) c⟩
      rw [nar0]
      refine h _ (fun i hi => ?_) (fun o i q q2 => ?_) ?_ ?_ (fun o k q => ?_) ?_
      · rw [gA_sA, if_neg (by omega), gA_sA, if_neg (by omega)]
        exact c i hi
      · rw [gA_sA, if_neg (by omega), gA_sA, if_neg (by omega)]
        exact b o i q
      · rw [gA_sA, if_neg (by omega), gA_sA, if_pos ⟨rfl, rfl⟩]
      · rw [gA_sA, if_pos ⟨rfl, rfl⟩]
      · rw [gI_sA, gI_sA, gI_sI, if_neg q]
        exact a o k
      · rw [gI_sA, gI_sA, gI_sI, if_pos ⟨rfl, rfl⟩]
    | succ k ih =>
      intro i hi w' a b c
      refine hJ _ _ ⟨fun c => ?_, fun _ => ⟨pk_in i 140 (by omega), fun y1 e1 => ⟨pk_in i 140 (by omega), fun y2 e2 => ?_⟩⟩⟩
      · simp (disch := omega) only [fa_lit, nI_leI] at c
        omega
      · rw [nI_clamp (by omega), b 17 i (by omega)] at e1
        subst e1 e2
        rw [nI_1, nI_clamp (by omega)]
        refine ih (i + 1) (by omega) _ (fun o k => a o k) (fun o j q => by rw [gA_sA, if_neg (fun c => q c.1)]; exact b o j q) (fun j hj => ?_)
        rw [gA_sA]
        by_cases q : j = i
        · rw [if_pos ⟨rfl, q⟩, q]
        · rw [if_neg (fun c => q c.2)]
          exact c j (by omega)
  exact key 140 0 (by omega) w (fun _ _ => rfl) (fun _ _ _ => rfl) (fun j hj => absurd hj (Nat.not_lt_zero j))
def bufOK (S : Sy) : Prop := ∀ i, i < S.len → byI (S.buf i)
set_option maxHeartbeats 4000000 in
theorem wm_parse {w : Wd} {b : Nat} {S : Sy} {x : Int32} {Post : Int32 → Wd → Prop} (hS : S.ok b) (hB : bufOK S) (hI : TI w S) (hx : (x < 0 ∨ nI S.len < x) → ∀ w', TI w' S → gI w' 15 0 = 1 → Post 0 w') (hE : ∀ lim e w', x = nI lim → lim ≤ S.len → gamE S.buf lim = .error e → TI w' (empS S) → gI w' 15 0 = 0 → Post (-2 - nI e) w') (hO : ∀ lim D w', x = nI lim → lim ≤ S.len → gamE S.buf lim = .ok D → TI w' (newS S D) → gI w' 15 0 = 0 → Post (nI D.g.n) w') : wp_X9_parse w x Post := by
  have hlen := hS.2.2.2.2
  unfold wp_X9_parse
  intro J hJ
  have hI0 : TI (sI w 15 0 0) S := hI.frT hS (FrT.th w 0)
  have th0 : gI (sI w 15 0 0) 15 0 = 0 := by rw [gI_sI, if_pos ⟨rfl, rfl⟩]
  obtain ⟨t1, ⟨t2, t3⟩, t4, t5, t6⟩ := id hI0
  rw [t5]
  refine wm_within (fun c => ⟨fun _ => ?_, fun q => absurd rfl q⟩) (fun c => ⟨fun q => absurd q (by decide), fun _ => ?_⟩)
  · unfold wp_X9_fail
    exact hx c _ (hI0.frT hS (FrT.th _ 1)) (by rw [gI_sI, if_pos ⟨rfl, rfl⟩])
  obtain ⟨lim, _, hl, rfl⟩ := rng (a := 0) (b := S.len) (by omega) (by omega) (fun q => c (Or.inl q)) (fun q => c (Or.inr q))
  have hlim : lim ≤ 400 := by omega
  have hby : ∀ i, i < lim → byI (S.buf i) := fun i hi => hB i (by omega)
  refine wm_setDefaults (fun w2 hD2 hU2 e5 e8 => ?_)
  have k1 : ∀ o k, ¬ (o = 15 ∧ 4 ≤ k ∧ k ≤ 12) → gI w2 o k = gI (sI (sI (sI (sI (sI w 15 0 0) 15 3 (nI lim)) 15 2 0) 15 5 0) 15 8 0) o k := fun o k q => hU2.1 o k q
  have kA : ∀ o i, o ≠ 17 → gA w2 o i = gA w o i := fun o i q => hU2.2 o i q
  have e3 : gI w2 15 3 = nI lim := by
    rw [k1 15 3 (by omega), gI_sI, if_neg (by omega), gI_sI, if_neg (by omega), gI_sI, if_neg (by omega), gI_sI, if_pos ⟨rfl, rfl⟩]
  have e2 : gI w2 15 2 = nI 0 := by
    rw [k1 15 2 (by omega), gI_sI, if_neg (by omega), gI_sI, if_neg (by omega), gI_sI, if_pos ⟨rfl, rfl⟩]
    rfl
  have e0 : gI w2 15 0 = 0 := by
    rw [k1 15 0 (by omega), gI_sI, if_neg (by omega), gI_sI, if_neg (by omega), gI_sI, if_neg (by omega), gI_sI, if_neg (by omega)]
    exact th0
  have e15 : gI w2 15 15 = nI S.d := by
    rw [k1 15 15 (by omega), gI_sI, if_neg (by omega), gI_sI, if_neg (by omega), gI_sI, if_neg (by omega), gI_sI, if_neg (by omega)]
    exact t2
  have e5' : gI w2 15 5 = nI 0 := by
    rw [e5, gI_sI, if_neg (by omega), gI_sI, if_pos ⟨rfl, rfl⟩]
    rfl
  have e8' : gI w2 15 8 = 0 := by
    rw [e8, gI_sI, if_pos ⟨rfl, rfl⟩]
  -- what an ended reading leaves
  have keepE : ∀ w', FrU w2 w' → TI w' (empS S) ∧ gI w' 15 0 = 0 := by
    intro w' hU
    have kA' : ∀ o i, o ≠ 17 → gA w' o i = gA w o i := fun o i q => (hU.2 o i q).trans (kA o i q)
    refine ⟨⟨t1.of (fun i _ => kA' 18 _ (by decide)) hS.1.1.1, ⟨(hU.1 15 15 (by omega)).trans e15, fun i hi => (t3 i hi).of (fun j _ => kA' 19 _ (by decide)) (hS.2.2.1 i hi).1.1.1⟩, fun k hk => ⟨(kA' 21 k (by decide)).trans (t4 k hk).1, fun hs => ((t4 k hk).2 hs).of (fun i _ => kA' 20 _ (by decide)) (hS.2.2.2.1 k hk hs).1.1.1⟩, (hU.1 15 2 (by omega)).trans e2, fun i hi => absurd hi (Nat.not_lt_zero i)⟩, (hU.1 15 0 (by omega)).trans e0⟩
  have done : ∀ w' D, gamE S.buf lim = .ok D → MDr w' D → FrU w2 w' → wp_X9_takeDraft w' (fun w7 => wp_X9_ladders w7 (fun r4 w8 => Post r4 w8)) := by
    intro w' D hok hD hU
    have hDk := gamE_ok hok
    have hn := hDk.1.1
    refine wm_takeDraft (fun w7 c18 cA c21a c21b cI c15 => ?_)
    unfold wp_X9_ladders
    obtain ⟨h1, h2, h3, h4, h5, h6, h7, h8, h9⟩ := hD
    have m0 : gA w7 18 0 = nI D.g.n := (c18 0 (by omega)).trans h1
    rw [m0]
    refine hO lim D w7 rfl hl hok ⟨TD.of0 m0 (fun l hl => ?_) (fun p hp k hk => ⟨?_, ?_⟩) ((c18 55 (by omega)).trans h5) ((c18 56 (by omega)).trans h6) ((c18 57 (by omega)).trans h7) (fun q => absurd rfl q) (fun i hi ha => absurd ha (Nat.not_lt_zero _)), ⟨c15, fun i hi => absurd hi (Nat.not_lt_zero i)⟩, fun k hk => ⟨?_, fun hs => absurd hs (by show ¬ false = true; decide)⟩, ?_, fun i hi => absurd hi (Nat.not_lt_zero i)⟩ ?_
    · have hl : l < D.g.n := hl
      obtain ⟨a1, a2, a3, a4, a5, a6, a7⟩ := h2 l hl
      exact ⟨(c18 _ (by omega)).trans a1, (c18 _ (by omega)).trans a2, (c18 _ (by omega)).trans a3, (c18 _ (by omega)).trans a4, (c18 _ (by omega)).trans a5, (c18 _ (by omega)).trans a6, (c18 _ (by omega)).trans a7⟩
    · show gA w7 18 (43 + 6 * p + k) = nI (D.tk ((3 * p + k) % 3))
      rw [c18 _ (by omega), (h4 p hp k hk).1, show (3 * p + k) % 3 = k by omega]
    · show gA w7 18 (43 + 6 * p + (3 + k)) = 0
      rw [c18 _ (by omega), (h4 p hp k hk).2]
    · rcases (show k = 0 ∨ k = 1 by omega) with rfl | rfl
      · exact c21a
      · exact c21b
    · exact (cI 15 2 (by omega)).trans ((hU.1 15 2 (by omega)).trans e2)
    · exact (cI 15 0 (by omega)).trans ((hU.1 15 0 (by omega)).trans e0)
  refine wm_nextToken (a := 0) hlim hby e3 e5' (Nat.zero_le _) (fun i hi => (kA 16 i (by decide)).trans (t6 i (by omega))) (fun w3 hP3 hT3 => ?_)
  have key : ∀ k n, n + k = 402 → ∀ t D w', gamF S.buf lim k t D = gamE S.buf lim → n ≤ t.st → MS w' S.buf lim (.ok t) → FrU w2 w' → MDr w' D → DOK D → J w' := by
    intro k
    induction k with
    | zero =>
      intro n hn t D w' heq hst hSt
      have ht := (hSt.2 t rfl).2.1
      have := ht.1
      have := ht.2.1
      omega
    | succ k ih =>
      intro n hn t D w' heq hst hSt hU hD hDk
      obtain ⟨hT, ht, h8⟩ := hSt.2 t rfl
      have o1 := ht.1
      have o2 := ht.2.1
      have o3 := ht.2.2.1
      unfold gamF at heq
      refine hJ _ ⟨fun _ => ?_, fun q => absurd h8 q⟩
      rw [hT.2.2.2.1]
      refine ⟨fun c => ⟨fun _ => ?_, fun q => absurd h8 q⟩, fun c => ?_⟩
      · have c' : t.kd = 0 := (mK_e o3).2.2.2.1.mp ((mK_n (j := 0) o3 (by omega)).mp c)
        rw [if_pos c'] at heq
        exact done w' D heq.symm hD hU
      · have c' : ¬ t.kd = 0 := fun q => c (by rw [q]; rfl)
        rw [if_neg c'] at heq
        refine wm_statement hlim hby hSt hD hDk (fun w9 hZ hU9 => ?_)
        cases hs : staE S.buf lim t D with
        | error e =>
          rw [hs] at hZ heq
          simp only at heq
          have he := hZ.1 e rfl
          obtain ⟨hTe, h0e⟩ := keepE w9 (hU.tr hU9)
          refine hJ _ ⟨fun c => absurd c he.ne, fun _ => ⟨fun c => absurd c he.ne, fun _ => ?_⟩⟩
          obtain ⟨kk, off, g1, g2, g3, g4, g5, g6⟩ := id he
          have hr : (8 * gI w9 15 9) + gI w9 15 8 = nI e := by
            rw [g1, g4, show (8 * nI off) + nI kk = (nI 8 * nI off) + nI kk from rfl, pk_mul, nI_add, g6]
          rw [hr]
          exact hE lim e w9 rfl hl heq.symm hTe h0e
        | ok y =>
          obtain ⟨t', D'⟩ := y
          rw [hs] at hZ heq
          simp only at heq
          obtain ⟨hS', hD'⟩ := hZ.2 t' D' rfl
          obtain ⟨r1, r2, r3⟩ := staE_ok hs ht hDk
          have := ht.2.2.2.1 c'
          exact ih (n + 1) (by omega) t' D' w9 heq (by omega) hS' (hU.tr hU9) hD' r3
  exact key 402 0 (by omega) _ _ w3 rfl (Nat.zero_le _) (MS.ok hT3 (TkO_n (Nat.zero_le _)).1 ((hP3.1 15 8 (by omega)).trans e8')) hP3.O.U (hD2.O hP3.O) D0_ok
/-! append -/
def MBf (w : Wd) (B : Nat × (Nat → Int32)) : Prop := gI w 15 2 = nI B.1 ∧ ∀ i, i < B.1 → gA w 16 i = B.2 i
def FrW2 (w w' : Wd) : Prop := (∀ o k, ¬ (o = 15 ∧ k = 2) → gI w' o k = gI w o k) ∧ (∀ o i, o ≠ 16 → gA w' o i = gA w o i)
theorem FrW2.tr {a b c : Wd} (h : FrW2 a b) (g : FrW2 b c) : FrW2 a c := ⟨fun o s q => (g.1 o s q).trans (h.1 o s q), fun o i q => (g.2 o i q).trans (h.2 o i q)⟩
theorem FrW2.s (w : Wd) (i : Nat) (x y : Int32) : FrW2 w (sI (sA w 16 i x) 15 2 y) := ⟨fun o k q => by rw [gI_sI, if_neg q]; rfl, fun o j q => by rw [gA_sI, gA_sA, if_neg (fun c => q c.1)]⟩
theorem MBf.put {w : Wd} {n : Nat} {f : Nat → Int32} {x : Int32} (h : MBf w (n, f)) : MBf (sI (sA w 16 n x) 15 2 (nI (n + 1))) (n + 1, upd f n x) := by
  refine ⟨by rw [gI_sI, if_pos ⟨rfl, rfl⟩], fun i hi => ?_⟩
  have hi : i < n + 1 := hi
  rw [gA_sI, gA_sA]
  show _ = upd f n x i
  by_cases q : i = n
  · rw [if_pos ⟨rfl, q⟩, q, pk_us]
  · rw [if_neg (fun c => q c.2), pk_un q]
    exact h.2 i (show i < n by omega)
theorem wm_appendInt {w : Wd} {B : Nat × (Nat → Int32)} {p : Int32} {Post : Wd → Prop} (hB : MBf w B) (hl : B.1 + 4 ≤ 400) (h : ∀ w', MBf w' (ap4 B p) → FrW2 w w' → Post w') : wp_X9_appendInt w p Post := by
  unfold wp_X9_appendInt
  intro J hJ
  obtain ⟨n, f⟩ := B
  have hl : n + 4 ≤ 400 := hl
  have one : ∀ (x : Int32) (w : Wd) (n : Nat) (f : Nat → Int32), ¬ x < 0 → n < 400 → MBf w (n, f) → J (x + (-8)) (sI (sA w 16 n (byP p x)) 15 2 (nI (n + 1))) → J x w := by
    intro x w n f hx hn hb hj
    have h1 : gI w 15 2 = nI n := hb.1
    refine hJ _ _ ⟨fun c => absurd c hx, fun _ y1 e1 => ?_⟩
    rw [h1, nI_clamp (by omega)]
    refine ⟨pk_in n 400 hn, fun y2 e2 y3 e3 => ?_⟩
    rw [gI_sA, h1, nI_1] at e2
    subst e1 e2 e3
    exact hj
  refine one 24 w n f (by decide) (by omega) hB ?_
  have b1 := hB.put (x := byP p 24)
  refine one 16 _ (n + 1) _ (by decide) (by omega) b1 ?_
  have b2 := b1.put (x := byP p 16)
  refine one 8 _ (n + 2) _ (by decide) (by omega) b2 ?_
  have b3 := b2.put (x := byP p 8)
  refine one 0 _ (n + 3) _ (by decide) (by omega) b3 ?_
  have b4 := b3.put (x := byP p 0)
  exact hJ _ _ ⟨fun _ => h _ b4 ((((FrW2.s _ _ _ _).tr (FrW2.s _ _ _ _)).tr (FrW2.s _ _ _ _)).tr (FrW2.s _ _ _ _)), fun c => absurd (by decide) c⟩
theorem wm_append {w : Wd} {b0 : Nat} {S : Sy} {a b c d e : Int32} {Post : Int32 → Wd → Prop} (hS : S.ok b0) (hI : TI w S) (h0 : ∀ w', 400 < S.len + 20 → TI w' S → Post (-1) w') (h1 : ∀ w', S.len + 20 ≤ 400 → TI w' (appS S a b c d e) → Post (nI (S.len + 20)) w') : wp_X9_append w a b c d e Post := by
  have hlen := hS.2.2.2.2
  have hI0 : TI (sI w 15 0 0) S := hI.frT hS (FrT.th w 0)
  obtain ⟨t1, ⟨t2, t3⟩, t4, t5⟩ := id hI0
  have hB : MBf (sI w 15 0 0) S.2.2.2 := t5
  unfold wp_X9_append
  rw [show gI (sI w 15 0 0) 15 2 = nI S.len from hB.1, show nI S.len + 20 = nI (S.len + 20) from nI_pL _ 20]
  refine ⟨fun q => ?_, fun q => ?_⟩
  · simp (disch := omega) only [fa_lit, nI_leI] at q
    have q : S.len + 20 ≤ 400 := q
    have l0 : S.2.2.2.1 = S.len := rfl
    refine wm_appendInt hB (by omega) (fun w1 b1 f1 => ?_)
    refine wm_appendInt b1 (by show S.len + 4 + 4 ≤ 400; omega) (fun w2 b2 f2 => ?_)
    refine wm_appendInt b2 (by show S.len + 4 + 4 + 4 ≤ 400; omega) (fun w3 b3 f3 => ?_)
    refine wm_appendInt b3 (by show S.len + 4 + 4 + 4 + 4 ≤ 400; omega) (fun w4 b4 f4 => ?_)
    refine wm_appendInt b4 (by show S.len + 4 + 4 + 4 + 4 + 4 ≤ 400; omega) (fun w5 b5 f5 => ?_)
    have e5 : gI w5 15 2 = nI (S.len + 20) := b5.1
    rw [e5]
    have hF := (((f1.tr f2).tr f3).tr f4).tr f5
    exact h1 w5 q ⟨t1.of (fun i _ => hF.2 18 _ (by decide)) hS.1.1.1, ⟨(hF.1 15 15 (by omega)).trans t2, fun i hi => (t3 i hi).of (fun j _ => hF.2 19 _ (by decide)) (hS.2.2.1 i hi).1.1.1⟩, fun k hk => ⟨(hF.2 21 k (by decide)).trans (t4 k hk).1, fun hs => ((t4 k hk).2 hs).of (fun i _ => hF.2 20 _ (by decide)) (hS.2.2.2.1 k hk hs).1.1.1⟩, b5⟩
  · simp (disch := omega) only [fa_lit, nI_leI] at q
    exact h0 _ (Nat.lt_of_not_le q) hI0

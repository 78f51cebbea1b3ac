/-! the class: a new game begins; parse, append -/
def r0 (D : Dr) : Rs := (fun _ => -1, fun _ => 0, fun i => D.tk (i % 3), fun _ => 0, D.fi, 0, (-1, -1, -1), fun _ => 0)
def newS (S : Sy) (D : Dr) : Sy := ((D.g, r0 D), (0, S.H), (fun _ => false, S.T), (0, S.buf))
def empS (S : Sy) : Sy := (S.1, S.2.1, S.2.2.1, (0, S.buf))
theorem cpy0 (f g : Nat → Int32) {n i : Nat} (hi : i < n) : va_cpy f g 0 0 n i = f i := by
  rw [pk_cpy_in (Nat.zero_le _) (by omega)]
  congr 1
  omega
theorem wh_copySetup {w : Wd} {Post : Wd → Prop} (h : ∀ w', (∀ o i, ¬ (35 ≤ o ∧ o ≤ 40) → gA w' o i = gA w o i) → (∀ o i, o ≠ 34 → gI w' o i = gI w o i) → w'.2.2 = w.2.2 → (∀ j i, 1 ≤ j → j ≤ 6 → i < seLen j → gA w' (34 + j) i = gA w (27 + j) i) → gI w' 34 6 = gI w 27 6 → gI w' 34 7 = gI w 27 7 → Post w') : wp_X6_copyFrom 1 0 w Post := by
  unfold wp_X6_copyFrom
  generalize hW : cpA (cpA (cpA (cpA (cpA (cpA w (27 + 7 * 0 + 1) (27 + 7 * 1 + 1) 0 0 6) (27 + 7 * 0 + 2) (27 + 7 * 1 + 2) 0 0 6) (27 + 7 * 0 + 3) (27 + 7 * 1 + 3) 0 0 6) (27 + 7 * 0 + 4) (27 + 7 * 1 + 4) 0 0 6) (27 + 7 * 0 + 5) (27 + 7 * 1 + 5) 0 0 6) (27 + 7 * 0 + 6) (27 + 7 * 1 + 6) 0 0 3 = W
  have wI : ∀ o i, gI W o i = gI w o i := fun o i => by rw [← hW]; rfl
  have wD : W.2.2 = w.2.2 := by rw [← hW]; rfl
  have wA : ∀ o i, ¬ (35 ≤ o ∧ o ≤ 40) → gA W o i = gA w o i := fun o i q => by
    rw [← hW, gA_cpA, if_neg (by omega), gA_cpA, if_neg (by omega), gA_cpA, if_neg (by omega), gA_cpA, if_neg (by omega), gA_cpA, if_neg (by omega), gA_cpA, if_neg (by omega)]
  have wN : ∀ j i, 1 ≤ j → j ≤ 6 → i < seLen j → gA W (34 + j) i = gA w (27 + j) i := fun j i h1 h2 hi => by
    rw [← hW]
    have hs : seLen j = if j = 6 then 3 else 6 := rfl
    rcases (show j = 1 ∨ j = 2 ∨ j = 3 ∨ j = 4 ∨ j = 5 ∨ j = 6 by omega) with rfl | rfl | rfl | rfl | rfl | rfl
    · rw [gA_cpA, if_neg (by omega), gA_cpA, if_neg (by omega), gA_cpA, if_neg (by omega), gA_cpA, if_neg (by omega), gA_cpA, if_neg (by omega), gA_cpA, if_pos rfl]
      exact cpy0 _ _ (n := 6) hi
    · rw [gA_cpA, if_neg (by omega), gA_cpA, if_neg (by omega), gA_cpA, if_neg (by omega), gA_cpA, if_neg (by omega), gA_cpA, if_pos rfl, cpy0 _ _ (n := 6) hi]
      rw [gA_cpA, if_neg (by omega)]
    · rw [gA_cpA, if_neg (by omega), gA_cpA, if_neg (by omega), gA_cpA, if_neg (by omega), gA_cpA, if_pos rfl, cpy0 _ _ (n := 6) hi]
      rw [gA_cpA, if_neg (by omega), gA_cpA, if_neg (by omega)]
    · rw [gA_cpA, if_neg (by omega), gA_cpA, if_neg (by omega), gA_cpA, if_pos rfl, cpy0 _ _ (n := 6) hi]
      rw [gA_cpA, if_neg (by omega), gA_cpA, if_neg (by omega), gA_cpA, if_neg (by omega)]
    · rw [gA_cpA, if_neg (by omega), gA_cpA, if_pos rfl, cpy0 _ _ (n := 6) hi]
      rw [gA_cpA, if_neg (by omega), gA_cpA, if_neg (by omega), gA_cpA, if_neg (by omega), gA_cpA, if_neg (by omega)]
    · rw [gA_cpA, if_pos rfl, cpy0 _ _ (n := 3) hi]
      rw [gA_cpA, if_neg (by omega), gA_cpA, if_neg (by omega), gA_cpA, if_neg (by omega), gA_cpA, if_neg (by omega), gA_cpA, if_neg (by omega)]
  clear hW
  intro y1 e1 y2 e2
  rw [wI] at e1
  rw [gI_sI, if_neg (by omega), wI] at e2
  subst e1 e2
  refine h _ wA (fun o i q => ?_) wD wN ?_ ?_
  · rw [gI_sI, if_neg (fun c => q c.1), gI_sI, if_neg (fun c => q c.1)]
    exact wI o i
  · rw [gI_sI, if_neg (by omega), gI_sI, if_pos ⟨rfl, rfl⟩]
  · rw [gI_sI, if_pos ⟨rfl, rfl⟩]
theorem VCs.of {w w' : Wd} (h : VCs w) (e1 : ∀ o k, 41 ≤ o → o < 53 → gI w' o k = gI w o k) (e2 : ∀ o k, 41 ≤ o → o < 53 → gA w' o k = gA w o k) : VCs w' := by
  intro j hj
  obtain ⟨cc', z', l', f', ⟨a1, a2, a3, a4, a5, a6⟩, hr⟩ := h j hj
  exact ⟨cc', z', l', f', ⟨(e1 _ _ (by omega) (by omega)).trans a1, (e1 _ _ (by omega) (by omega)).trans a2, (e1 _ _ (by omega) (by omega)).trans a3, (e1 _ _ (by omega) (by omega)).trans a4, a5, fun r hr => (e2 _ _ (by omega) (by omega)).trans (a6 r hr)⟩, hr⟩
set_option maxHeartbeats 4000000 in
theorem wh_begin {w : Wd} {D : Dr} {Post : Wd → Prop} (hDk : DOK D) (hD : CDr w D) (hM : ∀ i, i < 299 → gA w 6 i = nI (posN i)) (hV : VCs w) (h : ∀ w', GC w' D.g → CR w' 0 D.g.n (r0 D) → (∀ o k, o ≠ 34 → o ≠ 53 → gI w' o k = gI w o k) → (∀ o i, ¬ (35 ≤ o ∧ o ≤ 40) → ¬ (54 ≤ o ∧ o ≤ 60) → gA w' o i = gA w o i) → Post w') : wp_X0_begin 0 w Post := by
  have hn := hDk.1.1
  obtain ⟨d1, d2, d3, d4, d5, d6, d7⟩ := hD
  unfold wp_X0_begin
  refine wh_copySetup (fun w1 fA fI fD cA cI6 cI7 => ?_)
  have s6 : ∀ j, j ≠ 6 → seLen j = 6 := fun j q => if_neg q
  have c35 : ∀ j i, 1 ≤ j → j ≤ 5 → i < 6 → gA w1 (34 + j) i = gA w (27 + j) i := fun j i a b c => cA j i a (by omega) (by rw [s6 j (by omega)]; exact c)
  have c40 : ∀ i, i < 3 → gA w1 40 i = nI (D.tk i) := fun i hi => (cA 6 i (by omega) (by omega) hi).trans (d5 i hi)
  unfold wp_X7_begin
  intro J hJ
  generalize hU : cpA (cpA w1 (27 + 7 * 1 + 4) (53 + 8 * 0 + 1) 0 0 6) (27 + 7 * 1 + 5) (53 + 8 * 0 + 2) 0 0 6 = U
  have uI : ∀ o i, gI U o i = gI w1 o i := fun o i => by rw [← hU]; rfl
  have uA : ∀ o i, o ≠ 54 → o ≠ 55 → gA U o i = gA w1 o i := fun o i q q2 => by
    rw [← hU, gA_cpA, if_neg (by omega), gA_cpA, if_neg (by omega)]
  have u54 : ∀ i, i < 6 → gA U 54 i = gA w1 38 i := fun i hi => by
    rw [← hU, gA_cpA, if_neg (by omega), gA_cpA, if_pos rfl, cpy0 _ _ hi]
  have u55 : ∀ i, i < 6 → gA U 55 i = gA w1 39 i := fun i hi => by
    rw [← hU, gA_cpA, if_pos rfl, cpy0 _ _ hi]
    rw [gA_cpA, if_neg (by omega)]
  clear hU
  refine wh_fill (by omega) (fun f1 hf1 => ?_)
  refine wh_fill (by omega) (fun f2 hf2 => ?_)
  have key : ∀ k i, i + k = 2 → ∀ w2, (∀ o j, gI w2 o j = gI w1 o j) → (∀ o j, o ≠ 54 → o ≠ 55 → o ≠ 56 → o ≠ 57 → o ≠ 58 → gA w2 o j = gA w1 o j) → (∀ j, j < 6 → gA w2 54 j = gA w1 38 j ∧ gA w2 55 j = gA w1 39 j ∧ gA w2 56 j = -1 ∧ gA w2 57 j = 0) → (∀ j, j < 3 * i → gA w2 58 j = nI (D.tk (j % 3))) → J (nI i) w2 := by
    intro k
    induction k with
    | zero =>
      intro i hi w2 gIe gAe g6 g58
      obtain rfl : i = 2 := by omega
      refine hJ _ _ ⟨fun _ => ?_, fun c => absurd (by decide) c⟩
      refine wh_fill (by omega) (fun f3 hf3 y1 e1 => ?_)
      rw [gI_sF, gIe, show gI w1 (27 + 7 * 1) 7 = nI D.fi from cI7.trans d2] at e1
      subst e1
      unfold wp_X7_ban
      generalize hX : sI (sI (sI (sI (sI (sF w2 (53 + 8 * 0 + 6) f3) (53 + 8 * 0) 7 (nI D.fi)) (53 + 8 * 0) 8 0) (53 + 8 * 0) 9 (-1)) (53 + 8 * 0) 10 (-1)) (53 + 8 * 0) 11 (-1) = X
      have xI : ∀ o j, gI X o j = if o = 53 ∧ j = 11 then -1 else if o = 53 ∧ j = 10 then -1 else if o = 53 ∧ j = 9 then -1 else if o = 53 ∧ j = 8 then 0 else if o = 53 ∧ j = 7 then nI D.fi else gI w1 o j := fun o j => by
        rw [← hX, ← gIe]
        simp only [gI_sI]
        rfl
      have xA : ∀ o j, gA X o j = if o = 59 then f3 j else gA w2 o j := fun o j => by
        rw [← hX]
        show gA (sF w2 59 f3) o j = _
        rw [gA_sF]
      clear hX
      refine h X ⟨?_, fun l hl => ?_, fun i hi => ?_, ?_⟩ ⟨fun l hl => ?_, fun i hi => ?_, ?_, ?_, ?_, ?_, ?_, fun i hi ha => absurd ha (Nat.not_lt_zero _)⟩ (fun o j q1 q2 => ?_) (fun o j q1 q2 => ?_)
      · rw [xI, if_neg (by omega), if_neg (by omega), if_neg (by omega), if_neg (by omega), if_neg (by omega)]
        exact cI6.trans d1
      · obtain ⟨a1, a2, a3, a4, a5⟩ := d3 l hl
        have hl6 : l < 6 := by omega
        obtain ⟨t1, t2, t3, t4⟩ := g6 l hl6
        refine ⟨?_, ?_, ?_, ?_, ?_⟩
        · rw [xA, if_neg (by omega), gAe 35 l (by omega) (by omega) (by omega) (by omega) (by omega)]
          exact (c35 1 l (by omega) (by omega) hl6).trans a1
        · rw [xA, if_neg (by omega), gAe 36 l (by omega) (by omega) (by omega) (by omega) (by omega)]
          exact (c35 2 l (by omega) (by omega) hl6).trans a2
        · rw [xA, if_neg (by omega), gAe 37 l (by omega) (by omega) (by omega) (by omega) (by omega)]
          exact (c35 3 l (by omega) (by omega) hl6).trans a3
        · rw [xA, if_neg (by omega), t1]
          exact (c35 4 l (by omega) (by omega) hl6).trans a4
        · rw [xA, if_neg (by omega), t2]
          exact (c35 5 l (by omega) (by omega) hl6).trans a5
      · rw [xA, if_neg (by omega), gAe 6 i (by omega) (by omega) (by omega) (by omega) (by omega), fA 6 i (by omega)]
        exact hM i hi
      · refine hV.of (fun o k a b => ?_) (fun o k a b => ?_)
        · rw [xI, if_neg (by omega), if_neg (by omega), if_neg (by omega), if_neg (by omega), if_neg (by omega)]
          exact fI o k (by omega)
        · rw [xA, if_neg (by omega), gAe o k (by omega) (by omega) (by omega) (by omega) (by omega)]
          exact fA o k (by omega)
      · have hl6 : l < 6 := by omega
        obtain ⟨t1, t2, t3, t4⟩ := g6 l hl6
        refine ⟨?_, ?_⟩
        · show gA X 56 l = -1
          rw [xA, if_neg (by omega)]; exact t3
        · show gA X 57 l = nI 0
          rw [xA, if_neg (by omega), t4]; rfl
      · refine ⟨?_, ?_⟩
        · show gA X 58 i = nI (D.tk (i % 3))
          rw [xA, if_neg (by omega)]
          exact g58 i (by omega)
        · show gA X 59 i = 0
          rw [xA, if_pos rfl]
          exact hf3 i hi
      · show gI X 53 7 = nI D.fi
        rw [xI, if_neg (by omega), if_neg (by omega), if_neg (by omega), if_neg (by omega), if_pos ⟨rfl, rfl⟩]
      · show gI X 53 8 = nI 0
        rw [xI, if_neg (by omega), if_neg (by omega), if_neg (by omega), if_pos ⟨rfl, rfl⟩]
        rfl
      · show gI X 53 9 = -1
        rw [xI, if_neg (by omega), if_neg (by omega), if_pos ⟨rfl, rfl⟩]
      · show gI X 53 10 = -1
        rw [xI, if_neg (by omega), if_pos ⟨rfl, rfl⟩]
      · show gI X 53 11 = -1
        rw [xI, if_pos ⟨rfl, rfl⟩]
      · rw [xI, if_neg (by omega), if_neg (by omega), if_neg (by omega), if_neg (by omega), if_neg (by omega)]
        exact fI o j q1
      · rw [xA, if_neg (by omega), gAe o j (by omega) (by omega) (by omega) (by omega) (by omega)]
        exact fA o j q1
    | succ k ih =>
      intro i hi w2 gIe gAe g6 g58
      refine hJ _ _ ⟨fun c => ?_, fun _ => ?_⟩
      · simp (disch := omega) only [fa_lit, nI_leI] at c
        omega
      · rw [show nI i * 3 = nI (i * 3) from pk_mul i 3, nI_clamp (by omega)]
        refine ⟨⟨nI_pos (by omega), by omega⟩, fun y2 e2 => ?_⟩
        subst e2
        rw [nI_1]
        refine ih (i + 1) (by omega) _ (fun o j => gIe o j) (fun o j q1 q2 q3 q4 q5 => ?_) (fun j hj => ?_) (fun j hj => ?_)
        · rw [gA_cpA, if_neg (by omega)]
          exact gAe o j q1 q2 q3 q4 q5
        · rw [gA_cpA, if_neg (by omega), gA_cpA, if_neg (by omega), gA_cpA, if_neg (by omega), gA_cpA, if_neg (by omega)]
          exact g6 j hj
        · rw [gA_cpA, if_pos rfl]
          rcases Nat.lt_or_ge j (i * 3) with q | q
          · rw [pk_cpy_out (Or.inl q)]
            exact g58 j (by omega)
          · rw [pk_cpy_in q (by omega), gAe _ _ (by omega) (by omega) (by omega) (by omega) (by omega)]
            show gA w1 40 (0 + (j - i * 3)) = _
            rw [c40 _ (by omega)]
            exact congrArg (fun x => nI (D.tk x)) (by omega)
  refine key 2 0 (by omega) _ (fun o j => uI o j) (fun o j q1 q2 q3 q4 q5 => ?_) (fun j hj => ?_) (fun j hj => absurd hj (by omega))
  · rw [gA_sF, if_neg (by omega), gA_sF, if_neg (by omega)]
    exact uA o j q1 q2
  · refine ⟨?_, ?_, ?_, ?_⟩
    · rw [gA_sF, if_neg (by omega), gA_sF, if_neg (by omega)]; exact u54 j hj
    · rw [gA_sF, if_neg (by omega), gA_sF, if_neg (by omega)]; exact u55 j hj
    · rw [gA_sF, if_neg (by omega), gA_sF, if_pos rfl]; exact hf1 j hj
    · rw [gA_sF, if_pos rfl]; exact hf2 j hj
theorem wh_forgetAll {w : Wd} {Post : Wd → Prop} (h : ∀ w', (∀ o k, ¬ (o = 11 ∧ k = 3) → gI w' o k = gI w o k) → gI w' 11 3 = 0 → (∀ o i, o ≠ 14 → gA w' o i = gA w o i) → (∀ k, k < 2 → gA w' 14 k = 0) → Post w') : wp_X2_forgetAll w Post := by
  unfold wp_X2_forgetAll
  intro J hJ
  have key : ∀ k i, i + k = 2 → ∀ w', (∀ o k, gI w' o k = gI (sI w 11 3 0) o k) → (∀ o i, o ≠ 14 → gA w' o i = gA w o i) → (∀ j, j < i → gA w' 14 j = 0) → J (nI i) w' := by
    intro k
    induction k with
    | zero =>
      intro i hi w' a b c
      obtain rfl : i = 2 := by omega
      exact hJ _ _ ⟨fun _ => h w' (fun o k q => (a o k).trans (by rw [gI_sI, if_neg q])) ((a 11 3).trans (by rw [gI_sI, if_pos ⟨rfl, rfl⟩])) b c, fun c => absurd (by decide) c⟩
    | succ k ih =>
      intro i hi w' a b c
      refine hJ _ _ ⟨fun c => ?_, fun _ => ⟨pk_in i 2 (by omega), fun y e => ?_⟩⟩
      · simp (disch := omega) only [fa_lit, nI_leI] at c
        omega
      · subst e
        rw [nI_1, nI_clamp (by omega), nar0]
        refine ih (i + 1) (by omega) _ (fun o k => a o k) (fun o j q => by rw [gA_sA, if_neg (fun c => q c.1)]; exact b o j q) (fun j hj => ?_)
        rw [gA_sA]
        by_cases q : j = i
        · rw [if_pos ⟨rfl, q⟩]
        · rw [if_neg (fun c => q c.2)]
          exact c j (by omega)
  exact key 2 0 (by omega) _ (fun _ _ => rfl) (fun _ _ _ => rfl) (fun j hj => absurd hj (Nat.not_lt_zero j))
theorem GC.of {w w' : Wd} {g : Gm} (h : GC w g) (eI : ∀ k, gI w' 34 k = gI w 34 k) (eV : ∀ o k, 41 ≤ o → o < 53 → gI w' o k = gI w o k) (eA : ∀ o i, (o = 6 ∨ 34 < o) → o < 56 → gA w' o i = gA w o i) : GC w' g := by
  obtain ⟨h1, h2, h3, h4⟩ := h
  refine ⟨(eI 6).trans h1, fun l hl => ?_, fun i hi => (eA 6 i (Or.inl rfl) (by omega)).trans (h3 i hi), h4.of eV (fun o k q q2 => eA o k (Or.inr (by omega)) (by omega))⟩
  obtain ⟨a1, a2, a3, a4, a5⟩ := h2 l hl
  exact ⟨(eA 35 l (by omega) (by omega)).trans a1, (eA 36 l (by omega) (by omega)).trans a2, (eA 37 l (by omega) (by omega)).trans a3, (eA 54 l (by omega) (by omega)).trans a4, (eA 55 l (by omega) (by omega)).trans a5⟩
theorem CI.emp {w w' : Wd} {S : Sy} (h : CI w S) (hF : FrY w w') (h1 : gI w' 1 1 = 0) : CI w' (empS S) := by
  obtain ⟨hG, hR, ⟨nx, n1, n2, n3, n4⟩, hT, hB⟩ := h
  exact ⟨hG.of (fun k => hF.1 34 k (by omega) (by omega)) (fun o k q q2 => hF.1 o k (by omega) (by omega)) (fun o i q q2 => hF.2.1 o i (by omega)), hR.of (fun o i q q2 => hF.2.1 o i (by omega)) (fun k => hF.1 _ k (by omega) (by omega)), ⟨nx, n1, (hF.1 11 3 (by omega) (by omega)).trans n2, (hF.1 11 4 (by omega) (by omega)).trans n3, fun i hi => ⟨(n4 i hi).1.of (fun o j q q2 => hF.2.1 o j (by omega)), (n4 i hi).2.of (fun o j q q2 => hF.2.1 o j (by omega)) (fun k => hF.1 _ k (by omega) (by omega))⟩⟩, fun k hk => ⟨(hF.2.1 14 k (by omega)).trans (hT k hk).1, fun hs => ⟨((hT k hk).2 hs).1.of (fun o j q q2 => hF.2.1 o j (by omega)), ((hT k hk).2 hs).2.of (fun o j q q2 => hF.2.1 o j (by omega)) (fun k => hF.1 _ k (by omega) (by omega))⟩⟩, h1, fun i hi => absurd hi (Nat.not_lt_zero i)⟩
theorem wh_parse {w : Wd} {b : Nat} {S : Sy} {x : Int32} {Post : Int32 → Wd → Prop} {Ex : Nat → Wd → Prop} (hS : S.ok b) (hC : CI w S) (hx : (x < 0 ∨ nI S.len < x) → Ex 0 w) (hE : ∀ lim e w', x = nI lim → lim ≤ S.len → gamE S.buf lim = .error e → fIs e → CI w' (empS S) → Post (-2 - nI e) w') (hO : ∀ lim D w', x = nI lim → lim ≤ S.len → gamE S.buf lim = .ok D → CI w' (newS S D) → Post (nI D.g.n) w') : wp_X8_parse w x Post Ex := by
  have hlen := hS.2.2.2.2
  obtain ⟨hG, hR, ⟨nx, n1, n2, n3, n4⟩, hT, hB1, hB2⟩ := id hC
  unfold wp_X8_parse
  rw [hB1]
  refine ⟨fun c => hx (Or.inl c), fun c => ⟨fun c2 => ?_, fun c2 => hx (Or.inr (fa_of_nle c2))⟩⟩
  obtain ⟨lim, hl, rfl⟩ : ∃ lim, lim ≤ S.len ∧ x = nI lim := by
    obtain ⟨j, _, h2, e⟩ := rng (a := 0) (b := S.len) (by omega) (by omega) c (by rw [fa_lt]; rw [fa_le] at c2; exact Int.not_lt.mpr c2)
    exact ⟨j, h2, e⟩
  refine wh_readGame (buf := S.buf) (by omega) (fun i hi => hB2 i (by omega)) (fun e w' he hfe hF h1 => ?_) (fun D w' hok hF h1 hD => ?_)
  · have hne : ¬ nI e = 0 := nI_ne0 hfe.1 (by have := hfe.2; omega)
    exact ⟨fun q => absurd q hne, fun _ => hE lim e w' rfl hl he hfe (hC.emp hF h1)⟩
  · refine ⟨fun _ => ?_, fun q => absurd rfl q⟩
    refine wh_begin (gamE_ok hok) hD (fun i hi => (hF.2.1 6 i (by omega)).trans (hG.2.2.1 i hi)) (hG.2.2.2.of (fun o k _ _ => hF.1 o k (by omega) (by omega)) (fun o k _ _ => hF.2.1 o k (by omega))) (fun w2 hG2 hR2 gI2 gA2 => ?_)
    refine wh_forgetAll (fun w3 gI3 e3 gA3 e14 => ?_)
    have hG3 : GC w3 D.g := hG2.of (fun k => gI3 34 k (by omega)) (fun o k _ _ => gI3 o k (by omega)) (fun o i _ _ => gA3 o i (by omega))
    rw [show gI w3 (27 + 7 * 1) 6 = nI D.g.n from hG3.1]
    refine hO lim D w3 rfl hl hok ⟨hG3, hR2.of (fun o i q q2 => gA3 o i (by omega)) (fun k => gI3 _ k (by omega)), ⟨nx, n1, e3, ?_, fun i hi => absurd hi (Nat.not_lt_zero i)⟩, fun k hk => ⟨e14 k hk, fun hs => ?_⟩, ?_, fun i hi => absurd hi (Nat.not_lt_zero i)⟩
    · exact (gI3 11 4 (by omega)).trans ((gI2 11 4 (by omega) (by omega)).trans ((hF.1 11 4 (by omega) (by omega)).trans n3))
    · exact absurd hs (by show ¬ false = true; decide)
    · exact (gI3 1 1 (by omega)).trans ((gI2 1 1 (by omega) (by omega)).trans h1)
/-! append -/
def byP (p s : Int32) : Int32 := vp_nar .byte (p >>> (s &&& 31)).toInt8.toInt32
theorem byP_ok (p s : Int32) : byI (byP p s) := by
  unfold byP
  rw [pk_vb]
  exact fb_byte_rng _
def ap4 (B : Nat × (Nat → Int32)) (p : Int32) : Nat × (Nat → Int32) := (B.1 + 4, upd (upd (upd (upd B.2 B.1 (byP p 24)) (B.1 + 1) (byP p 16)) (B.1 + 2) (byP p 8)) (B.1 + 3) (byP p 0))
def ap20 (B : Nat × (Nat → Int32)) (a b c d e : Int32) : Nat × (Nat → Int32) := ap4 (ap4 (ap4 (ap4 (ap4 B a) b) c) d) e
def appS (S : Sy) (a b c d e : Int32) : Sy := (S.1, S.2.1, S.2.2.1, ap20 S.2.2.2 a b c d e)
/-- the text of a buffer in a world of the class's -/
def CBf (w : Wd) (B : Nat × (Nat → Int32)) : Prop := gI w 1 1 = nI B.1 ∧ ∀ i, i < B.1 → gA w 2 i = B.2 i
/-- all but the text -/
def FrZ (w w' : Wd) : Prop := (∀ o k, ¬ (o = 1 ∧ k = 1) → gI w' o k = gI w o k) ∧ (∀ o i, o ≠ 2 → gA w' o i = gA w o i)
theorem FrZ.tr {a b c : Wd} (h : FrZ a b) (g : FrZ b c) : FrZ a c := ⟨fun o s q => (g.1 o s q).trans (h.1 o s q), fun o i q => (g.2 o i q).trans (h.2 o i q)⟩
theorem FrZ.s (w : Wd) (i : Nat) (x y : Int32) : FrZ w (sI (sA w 2 i x) 1 1 y) := ⟨fun o k q => by rw [gI_sI, if_neg q]; rfl, fun o j q => by rw [gA_sI, gA_sA, if_neg (fun c => q c.1)]⟩
theorem CBf.put {w : Wd} {n : Nat} {f : Nat → Int32} {x : Int32} (h : CBf w (n, f)) : CBf (sI (sA w 2 n x) 1 1 (nI (n + 1))) (n + 1, upd f n x) := by
  refine ⟨by rw [gI_sI, if_pos ⟨rfl, rfl⟩], fun i hi => ?_⟩
  have hi : i < n + 1 := hi
  rw [gA_sI, gA_sA]
  show _ = upd f n x i
  by_cases q : i = n
  · rw [if_pos ⟨rfl, q⟩, q, pk_us]
  · rw [if_neg (fun c => q c.2), pk_un q]
    exact h.2 i (show i < n by omega)
theorem wh_addFour {w : Wd} {B : Nat × (Nat → Int32)} {p : Int32} {Post : Wd → Prop} (hB : CBf w B) (hl : B.1 + 4 ≤ 400) (h : ∀ w', CBf w' (ap4 B p) → FrZ w w' → Post w') : wp_X1_addFour w p Post := by
  unfold wp_X1_addFour
  intro J hJ
  obtain ⟨n, f⟩ := B
  have hl : n + 4 ≤ 400 := hl
  have one : ∀ (x : Int32) (w : Wd) (n : Nat) (f : Nat → Int32), ¬ x < 0 → n < 400 → CBf w (n, f) → J (x + (-8)) (sI (sA w 2 n (byP p x)) 1 1 (nI (n + 1))) → J x w := by
    intro x w n f hx hn hb hj
    have h1 : gI w 1 1 = nI n := hb.1
    refine hJ _ _ ⟨fun c => absurd c hx, fun _ => ⟨fun c => ?_, fun _ y1 e1 => ?_⟩⟩
    · rw [h1] at c
      simp (disch := omega) only [fa_lit, nI_leI] at c
      omega
    · rw [h1, nI_clamp (by omega)]
      refine ⟨pk_in n 400 hn, fun y2 e2 y3 e3 => ?_⟩
      rw [gI_sA, h1, nI_1] at e2
      subst e1 e2 e3
      exact hj
  refine one 24 w n f (by decide) (by omega) hB ?_
  have b1 := hB.put (x := byP p 24)
  refine one 16 _ (n + 1) _ (by decide) (by omega) b1 ?_
  have b2 := b1.put (x := byP p 16)
  refine one 8 _ (n + 2) _ (by decide) (by omega) b2 ?_
  have b3 := b2.put (x := byP p 8)
  refine one 0 _ (n + 3) _ (by decide) (by omega) b3 ?_
  have b4 := b3.put (x := byP p 0)
  exact hJ _ _ ⟨fun _ => h _ b4 ((((FrZ.s _ _ _ _).tr (FrZ.s _ _ _ _)).tr (FrZ.s _ _ _ _)).tr (FrZ.s _ _ _ _)), fun c => absurd (by decide) c⟩
theorem CI.frZ {w w' : Wd} {S : Sy} {B : Nat × (Nat → Int32)} (h : CI w S) (hF : FrZ w w') (hB : CBf w' B) : CI w' (S.1, S.2.1, S.2.2.1, B) := by
  obtain ⟨hG, hR, ⟨nx, n1, n2, n3, n4⟩, hT, _⟩ := h
  exact ⟨hG.of (fun k => hF.1 34 k (by omega)) (fun o k q q2 => hF.1 o k (by omega)) (fun o i q q2 => hF.2 o i (by omega)), hR.of (fun o i q q2 => hF.2 o i (by omega)) (fun k => hF.1 _ k (by omega)), ⟨nx, n1, (hF.1 11 3 (by omega)).trans n2, (hF.1 11 4 (by omega)).trans n3, fun i hi => ⟨(n4 i hi).1.of (fun o j q q2 => hF.2 o j (by omega)), (n4 i hi).2.of (fun o j q q2 => hF.2 o j (by omega)) (fun k => hF.1 _ k (by omega))⟩⟩, fun k hk => ⟨(hF.2 14 k (by omega)).trans (hT k hk).1, fun hs => ⟨((hT k hk).2 hs).1.of (fun o j q q2 => hF.2 o j (by omega)), ((hT k hk).2 hs).2.of (fun o j q q2 => hF.2 o j (by omega)) (fun k => hF.1 _ k (by omega))⟩⟩, hB⟩
theorem wh_append {w : Wd} {b0 : Nat} {S : Sy} {a b c d e : Int32} {Post : Int32 → Wd → Prop} (hS : S.ok b0) (hC : CI w S) (h0 : 400 < S.len + 20 → Post (-1) w) (h1 : ∀ w', S.len + 20 ≤ 400 → CI w' (appS S a b c d e) → Post (nI (S.len + 20)) w') : wp_X8_append w a b c d e Post := by
  have hlen := hS.2.2.2.2
  have hB : CBf w S.2.2.2 := hC.2.2.2.2
  unfold wp_X8_append
  rw [show gI w 1 1 = nI S.len from hB.1, show nI S.len + 20 = nI (S.len + 20) from nI_pL _ 20]
  refine ⟨fun c => ?_, fun c => ?_⟩
  · simp (disch := omega) only [fa_lit, nI_leI] at c
    have c : S.len + 20 ≤ 400 := c
    have l0 : S.2.2.2.1 = S.len := rfl
    refine wh_addFour hB (by omega) (fun w1 b1 f1 => ?_)
    refine wh_addFour b1 (by show S.len + 4 + 4 ≤ 400; omega) (fun w2 b2 f2 => ?_)
    refine wh_addFour b2 (by show S.len + 4 + 4 + 4 ≤ 400; omega) (fun w3 b3 f3 => ?_)
    refine wh_addFour b3 (by show S.len + 4 + 4 + 4 + 4 ≤ 400; omega) (fun w4 b4 f4 => ?_)
    refine wh_addFour b4 (by show S.len + 4 + 4 + 4 + 4 + 4 ≤ 400; omega) (fun w5 b5 f5 => ?_)
    have e5 : gI w5 1 1 = nI (S.len + 20) := b5.1
    rw [e5]
    exact h1 w5 c (hC.frZ ((((f1.tr f2).tr f3).tr f4).tr f5) b5)
  · simp (disch := omega) only [fa_lit, nI_leI] at c
    exact h0 (Nat.lt_of_not_le c)

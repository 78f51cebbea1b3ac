/-! the class reads a text -/
/-- all but the token, the fault and the draft -/
def FrR (w w' : Wd) : Prop := (∀ o k, ¬ (o = 1 ∧ 4 ≤ k ∧ k ≤ 10) → o ≠ 27 → gI w' o k = gI w o k) ∧ (∀ o i, ¬ (28 ≤ o ∧ o ≤ 33) → gA w' o i = gA w o i) ∧ w'.2.2 = w.2.2
theorem FrR.rf (w : Wd) : FrR w w := ⟨fun _ _ _ _ => rfl, fun _ _ _ => rfl, rfl⟩
theorem FrR.tr {a b c : Wd} (h : FrR a b) (g : FrR b c) : FrR a c := ⟨fun o s q r => (g.1 o s q r).trans (h.1 o s q r), fun o i q => (g.2.1 o i q).trans (h.2.1 o i q), g.2.2.trans h.2.2⟩
theorem FrN.R {w w' : Wd} (h : FrN w w') : FrR w w' := ⟨fun o s q _ => h.1 o s (by omega), fun o i _ => h.2.1 o i, h.2.2⟩
theorem FrR.s1 (w : Wd) (k : Nat) (x : Int32) (h : 4 ≤ k ∧ k ≤ 10) : FrR w (sI w 1 k x) := ⟨fun o j q _ => by rw [gI_sI, if_neg (by omega)], fun _ _ _ => rfl, rfl⟩
theorem FrR.s27 (w : Wd) (k : Nat) (x : Int32) : FrR w (sI w 27 k x) := ⟨fun o j _ q => by rw [gI_sI, if_neg (fun c => q c.1)], fun _ _ _ => rfl, rfl⟩
theorem FrR.a (w : Wd) (o i : Nat) (x : Int32) (h : 28 ≤ o ∧ o ≤ 33) : FrR w (sA w o i x) := ⟨fun _ _ _ _ => rfl, fun u j q => by rw [gA_sA, if_neg (by omega)], rfl⟩
/-- the draft's part is the same -/
def eqD (w w' : Wd) : Prop := (∀ k, gI w' 27 k = gI w 27 k) ∧ (∀ o i, 28 ≤ o → o ≤ 33 → gA w' o i = gA w o i) ∧ gI w' 1 9 = gI w 1 9 ∧ gI w' 1 10 = gI w 1 10
theorem eqD.rf (w : Wd) : eqD w w := ⟨fun _ => rfl, fun _ _ _ _ => rfl, rfl, rfl⟩
theorem eqD.tr {a b c : Wd} (h : eqD a b) (g : eqD b c) : eqD a c := ⟨fun k => (g.1 k).trans (h.1 k), fun o i q r => (g.2.1 o i q r).trans (h.2.1 o i q r), g.2.2.1.trans h.2.2.1, g.2.2.2.trans h.2.2.2⟩
theorem FrN.D {w w' : Wd} (h : FrN w w') : eqD w w' := ⟨fun k => h.1 27 k (by omega), fun o i _ _ => h.2.1 o i, h.1 1 9 (by omega), h.1 1 10 (by omega)⟩
/-- the class's draft -/
def CDr (w : Wd) (D : Dr) : Prop := gI w 27 6 = nI D.g.n ∧ gI w 27 7 = nI D.fi ∧ (∀ l, l < D.g.n → gA w 28 l = nI (D.g.top l) ∧ gA w 29 l = nI (D.g.cn l) ∧ gA w 30 l = nI (D.g.sz l) ∧ gA w 31 l = nI (D.g.co l) ∧ gA w 32 l = nI (D.g.lk l)) ∧ (∀ l, l < 6 → D.g.n ≤ l → gA w 32 l = 0) ∧ (∀ k, k < 3 → gA w 33 k = nI (D.tk k)) ∧ gI w 1 9 = bI D.ht ∧ gI w 1 10 = bI D.hf
theorem CDr.eq {w w' : Wd} {D : Dr} (h : CDr w D) (e : eqD w w') : CDr w' D := by
  obtain ⟨h1, h2, h3, h4, h5, h6, h7⟩ := h
  refine ⟨(e.1 _).trans h1, (e.1 _).trans h2, fun l hl => ?_, fun l hl hn => (e.2.1 32 l (by omega) (by omega)).trans (h4 l hl hn), fun k hk => (e.2.1 33 k (by omega) (by omega)).trans (h5 k hk), e.2.2.1.trans h6, e.2.2.2.trans h7⟩
  obtain ⟨a1, a2, a3, a4, a5⟩ := h3 l hl
  exact ⟨(e.2.1 28 l (by omega) (by omega)).trans a1, (e.2.1 29 l (by omega) (by omega)).trans a2, (e.2.1 30 l (by omega) (by omega)).trans a3, (e.2.1 31 l (by omega) (by omega)).trans a4, (e.2.1 32 l (by omega) (by omega)).trans a5⟩
theorem CTk.of {w w' : Wd} {buf : Nat → Int32} {lim : Nat} {t : Tk} (h : CTk w buf lim t) (e : ∀ k, 3 ≤ k → k ≤ 7 → gI w' 1 k = gI w 1 k) (e2 : ∀ i, gA w' 2 i = gA w 2 i) : CTk w' buf lim t := by
  obtain ⟨h1, h2, h3, h4, h5, h6⟩ := h
  exact ⟨(e 3 (by omega) (by omega)).trans h1, (e 4 (by omega) (by omega)).trans h2, (e 5 (by omega) (by omega)).trans h3, (e 6 (by omega) (by omega)).trans h4, fun q => (e 7 (by omega) (by omega)).trans (h5 q), fun i hi => (e2 i).trans (h6 i hi)⟩
theorem wh_fail {w : Wd} {st k : Nat} {Post : Int32 → Wd → Prop} (e6 : gI w 1 6 = nI st) (h : Post 0 (sI w 1 8 (nI (8 * st + k)))) : wp_X1_fail w (nI k) Post := by
  unfold wp_X1_fail
  intro y1 e1
  rw [e6, show (8 * nI st) + nI k = (nI 8 * nI st) + nI k from rfl, pk_mul, nI_add] at e1
  subst e1
  exact h
theorem wh_next {w : Wd} {buf : Nat → Int32} {lim : Nat} {t : Tk} {Post : Wd → Prop} (hlim : lim ≤ 400) (hT : CTk w buf lim t) (ht : TkO lim t) (h : ∀ w', FrN w w' → CTk w' buf lim (tokN buf lim t.en) → Post w') : wp_X1_nextToken w Post :=
  wh_nextToken hlim hT.1 hT.2.1 ht.2.1 hT.2.2.2.2.2 h
theorem wh_isNumber {w : Wd} {buf : Nat → Int32} {lim : Nat} {t : Tk} {p1 p2 : Int32} {b : Bool} {Post : Int32 → Wd → Prop} (hT : CTk w buf lim t) (ht : TkO lim t) (hb : t.kd = 3 → (b = true ↔ ¬ nI t.nm < p1 ∧ nI t.nm ≤ p2)) (hE : ∀ e, numB t b = .error e → (∃ k, 1 ≤ k ∧ k ≤ 4 ∧ e = 8 * t.st + k) → Post 0 (sI w 1 8 (nI e))) (hO : numB t b = .ok t.nm → t.kd = 3 → Post 1 w) : wp_X1_isNumber w p1 p2 Post := by
  obtain ⟨h1, h2, h3, h4, h5, h6⟩ := hT
  have hk := ht.2.2.1
  unfold wp_X1_isNumber
  unfold numB at hE hO
  rw [h3]
  refine ⟨fun c => ?_, fun c => ?_⟩
  · have c' : t.kd = 3 := nI_inj (b := 3) (by omega) (by omega) c
    rw [h5 c']
    rw [if_pos c'] at hE hO
    have e2 : ¬ b = true → Post 0 (sI w 1 8 (nI (8 * t.st + 2))) := fun q => hE _ (by rw [if_neg q]) ⟨2, by omega, by omega, rfl⟩
    refine ⟨fun c1 => ?_, fun c1 => ⟨fun c2 => ?_, fun c2 => ?_⟩⟩
    · refine wh_fail (k := 2) h4 ⟨fun _ => e2 (fun q => ((hb c').mp q).1 c1), fun q => absurd rfl q⟩
    · exact hO (by rw [if_pos ((hb c').mpr ⟨c1, c2⟩)]) c'
    · refine wh_fail (k := 2) h4 ⟨fun _ => e2 (fun q => c2 ((hb c').mp q).2), fun q => absurd rfl q⟩
  · have c' : ¬ t.kd = 3 := fun q => c (by rw [q]; rfl)
    rw [if_neg c'] at hE
    exact wh_fail (k := 1) h4 ⟨Or.inl rfl, hE _ rfl ⟨1, by omega, by omega, rfl⟩⟩
theorem num_dec {v lo hi : Nat} (hv : v ≤ 99) (hl : lo ≤ 99) (hh : hi ≤ 99) : decide (lo ≤ v ∧ v ≤ hi) = true ↔ ¬ nI v < nI lo ∧ nI v ≤ nI hi := by
  rw [decide_eq_true_eq, nI_ltI (by omega) (by omega), nI_leI (by omega) (by omega)]
  omega
/-- what a fault is -/
def fIs (e : Nat) : Prop := 0 < e ∧ e < 4000
theorem fIs_of {lim e : Nat} {t : Tk} (hlim : lim ≤ 400) (ht : TkO lim t) (h : ∃ k, 1 ≤ k ∧ k ≤ 4 ∧ e = 8 * t.st + k) : fIs e := by
  obtain ⟨k, h1, h2, h3⟩ := h
  have := ht.1
  have := ht.2.1
  unfold fIs
  omega
set_option maxHeartbeats 4000000 in
theorem wh_readSet {w : Wd} {buf : Nat → Int32} {lim hi most : Nat} {t0 : Tk} {Post : Int32 → Wd → Prop} (hlim : lim ≤ 400) (hhi : hi ≤ 12) (hmost : most ≤ 9) (hT0 : CTk w buf lim t0) (ht0 : TkO lim t0) (h80 : gI w 1 8 = 0) (hE : ∀ e w', setF buf lim hi most (most + 2) 0 0 t0 = .error e → fIs e → gI w' 1 8 = nI e → FrR w w' → Post 0 w') (hO : ∀ b t' w', setF buf lim hi most (most + 2) 0 0 t0 = .ok (b, t') → CTk w' buf lim t' → TkO lim t' → gI w' 1 8 = 0 → FrR w w' → eqD w w' → b < 8192 → Post (nI b) w') : wp_X1_readSet w (nI hi) (nI most) Post := by
  unfold wp_X1_readSet
  intro J hJ
  generalize hR : setF buf lim hi most (most + 2) 0 0 t0 = R at hE hO
  have h13 : 2 ^ (hi + 1) ≤ 8192 := Nat.le_trans (Nat.pow_le_pow_right (by decide) (show hi + 1 ≤ 13 by omega)) (by decide)
  have key : ∀ k n, n + k = most + 2 → n ≤ most → ∀ bits t w', setF buf lim hi most k bits n t = R → bits < 2 ^ (hi + 1) → CTk w' buf lim t → TkO lim t → gI w' 1 8 = 0 → FrR w w' → eqD w w' → J (nI bits) (nI n) w' := by
    intro k
    induction k with
    | zero => intro n h1 h2; omega
    | succ k ih =>
      intro n hn hnm bits t w' heq hbits hT ht h8 hF hD
      unfold setF at heq
      have step : (n = 0 ∨ t.kd = 3) → wp_X1_isNumber w' 1 (nI hi) (fun r1 w1 => (r1 = 0 → (Post 0 w1)) ∧ (¬ r1 = 0 → (wp_X8_hasBit w1 (nI bits) (gI w1 1 7) (fun r2 w2 => (r2 = 0 → ((nI n = nI most → (wp_X1_fail w2 4 (fun r3 w4 => Post 0 w4))) ∧ (¬ nI n = nI most → (∀ y1 : Int32, y1 = nI bits ||| ((1 : Int32) <<< ((gI w2 1 7) &&& 31)) → (wp_X1_nextToken w2 (fun w3 => ∀ y2 : Int32, y2 = nI n + 1 → (J y1 y2 w3))))))) ∧ (¬ r2 = 0 → (wp_X1_fail w2 3 (fun r4 w5 => Post 0 w5))))))) := by
        intro q
        rw [if_pos q] at heq
        refine wh_isNumber (p1 := 1) (b := decide (1 ≤ t.nm ∧ t.nm ≤ hi)) hT ht (fun _ => num_dec (lo := 1) ht.2.2.2.2 (by omega) (by omega)) (fun e he hke => ⟨fun _ => ?_, fun q => absurd rfl q⟩) (fun ho hk3 => ⟨fun q => absurd q (by decide), fun _ => ?_⟩)
        · have he' : numE t 1 hi = .error e := he
          rw [he'] at heq
          exact hE e _ heq.symm (fIs_of hlim ht hke) (by rw [gI_sI, if_pos ⟨rfl, rfl⟩]) (hF.tr (FrR.s1 _ 8 _ (by omega)))
        · have ho' : numE t 1 hi = .ok t.nm := ho
          rw [ho'] at heq
          simp only at heq
          obtain ⟨v1, v2, v3, v4⟩ := numE_ok ho'
          rw [hT.2.2.2.2.1 hk3]
          refine wh_hasBit (by omega) (by omega) ?_
          rw [bI_0]
          refine ⟨fun c => ⟨fun c2 => ?_, fun c2 y1 e1 => ?_⟩, fun c => ?_⟩
          · have c2' := nI_inj (by omega) (by omega) c2
            rw [if_neg (by rw [c]; decide), if_pos c2'] at heq
            refine wh_fail (k := 4) hT.2.2.2.1 ?_
            exact hE _ _ heq.symm (fIs_of hlim ht ⟨4, by omega, by omega, rfl⟩) (by rw [gI_sI, if_pos ⟨rfl, rfl⟩]) (hF.tr (FrR.s1 _ 8 _ (by omega)))
          · have c2' : ¬ n = most := fun q => c2 (by rw [q])
            rw [if_neg (by rw [c]; decide), if_neg c2'] at heq
            rw [hT.2.2.2.2.1 hk3, nI_shl1 (by omega), fa_or] at e1
            subst e1
            refine wh_next hlim hT ht (fun w3 hN hT3 y2 e2 => ?_)
            subst e2
            rw [nI_1]
            exact ih (n + 1) (by omega) (by omega) _ _ w3 heq (Nat.or_lt_two_pow hbits (Nat.pow_lt_pow_right (by omega) (by omega))) hT3 (TkO_n ht.2.1).1 ((hN.1 1 8 (by omega)).trans h8) (hF.tr hN.R) (hD.tr hN.D)
          · rw [if_pos (by simpa using c)] at heq
            refine wh_fail (k := 3) hT.2.2.2.1 ?_
            exact hE _ _ heq.symm (fIs_of hlim ht ⟨3, by omega, by omega, rfl⟩) (by rw [gI_sI, if_pos ⟨rfl, rfl⟩]) (hF.tr (FrR.s1 _ 8 _ (by omega)))
      refine hJ _ _ _ ⟨fun c => ?_, fun _ => ⟨fun c => ?_, fun c => ⟨fun c2 => ?_, fun c2 => ?_⟩⟩⟩
      · simp (disch := omega) only [nI_ltI] at c
        omega
      · exact step (Or.inl (nI_inj (b := 0) (by omega) (by omega) c))
      · rw [hT.2.2.1] at c2
        exact step (Or.inr (nI_inj (b := 3) (by have := ht.2.2.1; omega) (by omega) c2))
      · rw [hT.2.2.1] at c2
        rw [if_neg (fun q => q.elim (fun q => c (by rw [q]; rfl)) (fun q => c2 (by rw [q]; rfl)))] at heq
        exact hO bits t w' heq.symm hT ht h8 hF hD (by omega)
  exact key (most + 2) 0 (by omega) (Nat.zero_le _) 0 t0 w hR (Nat.two_pow_pos _) hT0 ht0 h80 (FrR.rf w) (eqD.rf w)
theorem isW_sp {buf : Nat → Int32} {i : Nat} {t : Tk} : isW buf i t = true ↔ t.kd = 2 ∧ t.en - t.st = strLen.getD i 0 ∧ ∀ j, j < strLen.getD i 0 → buf (t.st + j) = (strBy.getD i []).getD j 0 &&& 255 := by
  unfold isW
  exact decide_eq_true_iff
theorem wh_isWord {w : Wd} {buf : Nat → Int32} {lim i : Nat} {t : Tk} {Post : Int32 → Wd → Prop} (hlim : lim ≤ 400) (hT : CTk w buf lim t) (ht : TkO lim t) (hl : strLen.getD i 0 ≤ 30) (h : Post (bI (isW buf i t)) w) : wp_X1_isWord i w Post := by
  obtain ⟨h1, h2, h3, h4, h5, h6⟩ := hT
  obtain ⟨o1, o2, o3, o4, o5⟩ := ht
  unfold wp_X1_isWord wp_J0_length_8abf5 wp_J0_charAt_5068e
  intro J hJ
  have no : ¬ isW buf i t = true → Post 0 w := fun q => by
    rw [show isW buf i t = false by simpa using q] at h
    exact h
  rw [h3, h2, h4, pk_sub o1]
  refine ⟨fun c => ⟨fun c2 => ?_, fun c2 => no (fun q => c2 (by rw [(isW_sp.mp q).2.1]))⟩, fun c => no (fun q => c (by rw [(isW_sp.mp q).1]; rfl))⟩
  have c' : t.kd = 2 := nI_inj (b := 2) (by omega) (by omega) c
  have c2' := nI_inj (by omega) (by omega) c2
  have key : ∀ k j, j + k = strLen.getD i 0 → (∀ u, u < j → buf (t.st + u) = (strBy.getD i []).getD u 0 &&& 255) → J (nI j) w := by
    intro k
    induction k with
    | zero =>
      intro j hj hall
      have hw : isW buf i t = true := isW_sp.mpr ⟨c', c2', fun u hu => hall u (by omega)⟩
      rw [hw] at h
      refine hJ _ _ ⟨fun _ => h, fun c => ?_⟩
      simp (disch := omega) only [nI_leI] at c
      omega
    | succ k ih =>
      intro j hj hall
      refine hJ _ _ ⟨fun c => ?_, fun _ => ⟨fun c => ?_, fun _ => ?_⟩⟩
      · simp (disch := omega) only [nI_leI] at c
        omega
      · rw [h1, h4, nI_add] at c
        simp (disch := omega) only [nI_leI] at c
        omega
      · rw [h4, nI_add, nI_clamp (by omega), nI_clamp (by omega), h6 _ (by omega)]
        refine ⟨pk_in (t.st + j) 400 (by omega), pk_in j _ (by omega), fun c y e => ?_, fun c => no (fun q => c ((isW_sp.mp q).2.2 j (by omega)))⟩
        subst e
        rw [nI_1]
        refine ih (j + 1) (by omega) (fun u hu => ?_)
        by_cases e : u = j
        · rw [e]; exact c
        · exact hall u (by omega)
  exact key _ 0 (Nat.zero_add _) (fun u hu => absurd hu (Nat.not_lt_zero u))
/-- how a statement of the class's ends -/
def CEnd (w : Wd) (buf : Nat → Int32) (lim : Nat) (x : Except Nat (Tk × Dr)) (Post : Int32 → Wd → Prop) : Prop := (∀ e w', x = .error e → fIs e → gI w' 1 8 = nI e → FrR w w' → Post 0 w') ∧ ∀ t' D' w', x = .ok (t', D') → CTk w' buf lim t' → TkO lim t' → gI w' 1 8 = 0 → FrR w w' → CDr w' D' → Post 1 w'
set_option maxHeartbeats 4000000 in
theorem wh_readLadder {w : Wd} {buf : Nat → Int32} {lim : Nat} {t : Tk} {D : Dr} {Post : Int32 → Wd → Prop} (hlim : lim ≤ 400) (hT : CTk w buf lim t) (ht : TkO lim t) (hD : CDr w D) (hDk : DOK D) (h80 : gI w 1 8 = 0) (h : CEnd w buf lim (ladE buf lim t D) Post) : wp_X1_readLadder w Post := by
  have hn := hDk.1.1
  unfold wp_X1_readLadder
  intro y1 e1
  rw [show gI w (27 + 7 * 0) 6 = nI D.g.n from hD.1] at e1
  subst e1
  unfold ladE at h
  refine ⟨fun c => ?_, fun c => ?_⟩
  · simp (disch := omega) only [fa_lit, nI_ltI] at c
    have hn5 : D.g.n < 6 := c
    rw [if_neg (by omega)] at h
    refine wh_next hlim hT ht (fun w1 hN1 hT1 => ?_)
    obtain ⟨g1, g2⟩ := TkO_n (buf := buf) ht.2.1
    have h81 := (hN1.1 1 8 (by omega)).trans h80
    refine wh_isNumber (p1 := 1) (b := decide (1 ≤ (tokN buf lim t.en).nm ∧ (tokN buf lim t.en).nm ≤ 12)) hT1 g1 (fun _ => num_dec (lo := 1) (hi := 12) g1.2.2.2.2 (by omega) (by omega)) (fun e he hke => ⟨fun _ => ?_, fun q => absurd rfl q⟩) (fun ho hk3 => ⟨fun q => absurd q (by decide), fun _ y2 e2 => ?_⟩)
    · have he' : numE (tokN buf lim t.en) 1 12 = .error e := he
      rw [he'] at h
      exact h.1 e _ rfl (fIs_of hlim g1 hke) (by rw [gI_sI, if_pos ⟨rfl, rfl⟩]) (hN1.R.tr (FrR.s1 _ 8 _ (by omega)))
    · have ho' : numE (tokN buf lim t.en) 1 12 = .ok (tokN buf lim t.en).nm := ho
      rw [ho'] at h
      simp only at h
      obtain ⟨v1, v2, v3, v4⟩ := numE_ok ho'
      rw [hT1.2.2.2.2.1 hk3] at e2
      subst e2
      refine wh_next hlim hT1 g1 (fun w2 hN2 hT2 => ?_)
      obtain ⟨g3, g4⟩ := TkO_n (buf := buf) g1.2.1
      have h82 := (hN2.1 1 8 (by omega)).trans h81
      have hF2 := hN1.R.tr hN2.R
      have hE2 := hN1.D.tr hN2.D
      have done : ∀ (w6 : Wd) (t6 : Tk) (co sz : Nat), co < 8192 → FrR w w6 → eqD w w6 → CTk w6 buf lim t6 → TkO lim t6 → gI w6 1 8 = 0 → (∀ w', CTk w' buf lim t6 → TkO lim t6 → gI w' 1 8 = 0 → FrR w w' → CDr w' (D.g.add (tokN buf lim t.en).nm co sz, D.2) → Post 1 w') → vp_in (nI D.g.n) 6 ∧ (wp_J6_bitCount_0f7a4 (sA w6 (27 + 7 * 0 + 1) (nI D.g.n).toNatClampNeg (nI (tokN buf lim t.en).nm)) (nI co) (fun r5 w7 => vp_in (nI D.g.n) 6 ∧ (vp_in (nI D.g.n) 6 ∧ (vp_in (nI D.g.n) 6 ∧ (∀ y4 : Int32, y4 = nI D.g.n + 1 → (Post 1 (sI (sA (sA (sA w7 (27 + 7 * 0 + 2) (nI D.g.n).toNatClampNeg r5) (27 + 7 * 0 + 4) (nI D.g.n).toNatClampNeg (nI co)) (27 + 7 * 0 + 3) (nI D.g.n).toNatClampNeg (nI sz)) (27 + 7 * 0) 6 y4))))))) := by
        intro w6 t6 co sz hco hF6 hE6 hT6 ht6 h86 hk
        have hin : vp_in (nI D.g.n) 6 := pk_in D.g.n 6 hn5
        rw [nI_clamp (by omega)]
        refine ⟨hin, wh_bitCount hco ⟨hin, hin, hin, fun y4 e4 => ?_⟩⟩
        subst e4
        rw [nI_1]
        obtain ⟨d1, d2, d3, d4, d5, d6, d7⟩ := hD.eq hE6
        refine hk _ (hT6.of (fun k _ _ => by rw [gI_sI, if_neg (by omega)]; rfl) (fun i => by rw [gA_sI, gA_sA, if_neg (by omega), gA_sA, if_neg (by omega), gA_sA, if_neg (by omega), gA_sA, if_neg (by omega)])) ht6 (by rw [gI_sI, if_neg (by omega)]; exact h86) (((((hF6.tr (FrR.a _ 28 _ _ (by omega))).tr (FrR.a _ 29 _ _ (by omega))).tr (FrR.a _ 31 _ _ (by omega))).tr (FrR.a _ 30 _ _ (by omega))).tr (FrR.s27 _ 6 _)) ?_
        have hne : ∀ l, l ≠ D.g.n → ∀ o, gA (sI (sA (sA (sA (sA w6 28 D.g.n (nI (tokN buf lim t.en).nm)) 29 D.g.n (nI (pop co))) 31 D.g.n (nI co)) 30 D.g.n (nI sz)) 27 6 (nI (D.g.n + 1))) o l = gA w6 o l := fun l hl o => by
          rw [gA_sI, gA_sA, if_neg (fun c => hl c.2), gA_sA, if_neg (fun c => hl c.2), gA_sA, if_neg (fun c => hl c.2), gA_sA, if_neg (fun c => hl c.2)]
        refine ⟨by rw [gI_sI, if_pos ⟨rfl, rfl⟩]; rfl, by rw [gI_sI, if_neg (by omega)]; exact d2, fun l hl => ?_, fun l hl hge => ?_, fun k hk => ?_, d6, d7⟩
        · have hl : l < D.g.n + 1 := hl
          show _ = nI (if l = D.g.n then (tokN buf lim t.en).nm else D.g.top l) ∧ _ = nI (if l = D.g.n then pop co else D.g.cn l) ∧ _ = nI (if l = D.g.n then sz else D.g.sz l) ∧ _ = nI (if l = D.g.n then co else D.g.co l) ∧ _ = nI (if l = D.g.n then 0 else D.g.lk l)
          by_cases q : l = D.g.n
          · subst q
            simp only [if_pos]
            refine ⟨?_, ?_, ?_, ?_, ?_⟩
            · rw [gA_sI, gA_sA, if_neg (by omega), gA_sA, if_neg (by omega), gA_sA, if_neg (by omega), gA_sA, if_pos ⟨rfl, rfl⟩]
            · rw [gA_sI, gA_sA, if_neg (by omega), gA_sA, if_neg (by omega), gA_sA, if_pos ⟨rfl, rfl⟩]
            · rw [gA_sI, gA_sA, if_pos ⟨rfl, rfl⟩]
            · rw [gA_sI, gA_sA, if_neg (by omega), gA_sA, if_pos ⟨rfl, rfl⟩]
            · rw [gA_sI, gA_sA, if_neg (by omega), gA_sA, if_neg (by omega), gA_sA, if_neg (by omega), gA_sA, if_neg (by omega)]
              exact d4 _ (by omega) (Nat.le_refl _)
          · simp only [if_neg q]
            obtain ⟨a1, a2, a3, a4, a5⟩ := d3 l (by omega)
            exact ⟨(hne l q 28).trans a1, (hne l q 29).trans a2, (hne l q 30).trans a3, (hne l q 31).trans a4, (hne l q 32).trans a5⟩
        · have hge : D.g.n + 1 ≤ l := hge
          exact (hne l (by omega) 32).trans (d4 l hl (by omega))
        · rw [gA_sI, gA_sA, if_neg (by omega), gA_sA, if_neg (by omega), gA_sA, if_neg (by omega), gA_sA, if_neg (by omega)]
          exact d5 k hk
      refine wh_readSet (most := 3) hlim v3 (by omega) hT2 g3 h82 (fun e w4 he hfe h84 hF4 => ?_) (fun co t3 w4 hok hT4 ht4 h84 hF4 hE4 hco => ?_)
      · rw [he] at h
        rw [h84]
        have hne : ¬ nI e = 0 := nI_ne0 hfe.1 (by have := hfe.2; omega)
        refine ⟨fun q => absurd q hne, fun _ => ⟨fun q => absurd q hne, fun _ => h.1 e w4 rfl hfe h84 (hF2.tr hF4)⟩⟩
      · rw [hok] at h
        simp only at h
        refine ⟨fun _ => ?_, fun q => absurd h84 q⟩
        refine wh_isWord hlim hT4 ht4 (by decide) ?_
        rw [bI_0]
        refine ⟨fun c2 => ⟨fun _ => ?_, fun q => absurd h84 q⟩, fun c2 => ?_⟩
        · rw [if_neg (by rw [c2]; decide)] at h
          exact done w4 t3 co 14 hco (hF2.tr hF4) (hE2.tr hE4) hT4 ht4 h84 (fun w' a1 a2 a3 a4 a5 => h.2 t3 _ w' rfl a1 a2 a3 a4 a5)
        · rw [if_pos (by simpa using c2)] at h
          refine wh_next hlim hT4 ht4 (fun w8 hN8 hT8 => ?_)
          obtain ⟨g5, g6⟩ := TkO_n (buf := buf) ht4.2.1
          have h88 := (hN8.1 1 8 (by omega)).trans h84
          refine wh_readSet (hi := 12) (most := 4) hlim (by omega) (by omega) hT8 g5 h88 (fun e w9 he hfe h89 hF9 => ?_) (fun sz t5 w9 hok2 hT9 ht9 h89 hF9 hE9 hsz => ?_)
          · rw [he] at h
            rw [h89]
            have hne : ¬ nI e = 0 := nI_ne0 hfe.1 (by have := hfe.2; omega)
            exact ⟨fun q => absurd q hne, fun _ => h.1 e w9 rfl hfe h89 (((hF2.tr hF4).tr hN8.R).tr hF9)⟩
          · rw [hok2] at h
            simp only at h
            refine ⟨fun _ => ?_, fun q => absurd h89 q⟩
            exact done w9 t5 co sz hco (((hF2.tr hF4).tr hN8.R).tr hF9) (((hE2.tr hE4).tr hN8.D).tr hE9) hT9 ht9 h89 (fun w' a1 a2 a3 a4 a5 => h.2 t5 _ w' rfl a1 a2 a3 a4 a5)
  · simp (disch := omega) only [fa_lit, nI_ltI] at c
    rw [if_pos (by omega)] at h
    refine wh_fail (k := 4) hT.2.2.2.1 ⟨Or.inl rfl, ?_⟩
    exact h.1 _ _ rfl (fIs_of hlim ht ⟨4, by omega, by omega, rfl⟩) (by rw [gI_sI, if_pos ⟨rfl, rfl⟩]) (FrR.s1 _ 8 _ (by omega))

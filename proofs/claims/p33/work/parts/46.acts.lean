/-! what every act does besides -/
def lgU (f : Nat → Int32) (a : Nat) (k t l h s : Int32) : Nat → Int32 := fun i => if i = rowN a + 4 then s else if i = rowN a + 3 then h else if i = rowN a + 2 then l else if i = rowN a + 1 then t else if i = rowN a then k else f i
def finR (r : Rs) (k l h s : Int32) : Rs := (fun i => if r.la i ≤ 1 then -1 else r.ow i, fun i => r.la i - 1, r.tk, r.ct, 1 - r.tu, r.ac + 1, (-1, -1, -1), lgU r.lg r.ac k (nI r.tu) l h s)
def Rs.dtk (r : Rs) (k : Nat) : Rs := (r.ow, r.la, fun i => if i = 3 * r.tu + k then r.tk i - 1 else r.tk i, r.2.2.2)
def Rs.act (r : Rs) (k : Nat) (a : Int32) : Rs := (r.ow, r.la, r.tk, fun i => if i = 3 * r.tu + k then r.ct i + a else r.ct i, r.2.2.2.2)
def Rs.sbn (r : Rs) (l h s : Int32) : Rs := (r.ow, r.la, r.tk, r.ct, r.tu, r.ac, (l, h, s), r.lg)
def Rs.clm (r : Rs) (l : Nat) (p : Int32) : Rs := (fun i => if i = l then p else r.ow i, fun i => if i = l then 3 else r.la i, r.2.2)
/-- all but the state that is now (object 53 and its arrays) -/
def FrG (w w' : Wd) : Prop := (∀ o k, o ≠ 53 → gI w' o k = gI w o k) ∧ (∀ o i, ¬ (54 ≤ o ∧ o ≤ 60) → gA w' o i = gA w o i) ∧ w'.2.2 = w.2.2
theorem FrG.rf (w : Wd) : FrG w w := ⟨fun _ _ _ => rfl, fun _ _ _ => rfl, rfl⟩
theorem FrG.tr {a b c : Wd} (h : FrG a b) (g : FrG b c) : FrG a c := ⟨fun o s q => (g.1 o s q).trans (h.1 o s q), fun o i q => (g.2.1 o i q).trans (h.2.1 o i q), g.2.2.trans h.2.2⟩
theorem FrG.sA (w : Wd) (o i : Nat) (x : Int32) (h : 54 ≤ o ∧ o ≤ 60) : FrG w (sA w o i x) := ⟨fun _ _ _ => rfl, fun o' j q => by rw [gA_sA, if_neg (by omega)], rfl⟩
theorem FrG.sI (w : Wd) (k : Nat) (x : Int32) : FrG w (sI w 53 k x) := ⟨fun o j q => by rw [gI_sI, if_neg (fun c => q c.1)], fun _ _ _ => rfl, rfl⟩
theorem VCs.frG {w w' : Wd} (h : VCs w) (hF : FrG w w') : VCs w' := by
  intro j hj
  obtain ⟨cc', z', l', f', ⟨a1, a2, a3, a4, a5, a6⟩, hr⟩ := h j hj
  exact ⟨cc', z', l', f', ⟨(hF.1 _ _ (by omega)).trans a1, (hF.1 _ _ (by omega)).trans a2, (hF.1 _ _ (by omega)).trans a3, (hF.1 _ _ (by omega)).trans a4, a5, fun r hr => (hF.2.1 _ _ (by omega)).trans (a6 r hr)⟩, hr⟩
theorem GC.frG {w w' : Wd} {g : Gm} (h : GC w g) (hF : FrG w w') (e : ∀ o i, o < 56 → gA w' o i = gA w o i) : GC w' g := by
  obtain ⟨h1, h2, h3, h4⟩ := h
  refine ⟨(hF.1 34 6 (by omega)).trans h1, fun l hl => ?_, fun i hi => (e 6 i (by omega)).trans (h3 i hi), h4.frG hF⟩
  obtain ⟨a1, a2, a3, a4, a5⟩ := h2 l hl
  exact ⟨(e 35 l (by omega)).trans a1, (e 36 l (by omega)).trans a2, (e 37 l (by omega)).trans a3, (e 54 l (by omega)).trans a4, (e 55 l (by omega)).trans a5⟩
theorem GC.sco {w : Wd} {g : Gm} (h : GC w g) (l v : Nat) : GC (sA w 54 l (nI v)) (g.sco l v) := by
  obtain ⟨h1, h2, h3, h4⟩ := h
  refine ⟨h1, fun k hk => ?_, fun i hi => (by rw [gA_sA, if_neg (by omega)]; exact h3 i hi), h4.frG (FrG.sA w 54 l _ (by omega))⟩
  obtain ⟨a1, a2, a3, a4, a5⟩ := h2 k hk
  refine ⟨(by rw [gA_sA, if_neg (by omega)]; exact a1), (by rw [gA_sA, if_neg (by omega)]; exact a2), (by rw [gA_sA, if_neg (by omega)]; exact a3), ?_, (by rw [gA_sA, if_neg (by omega)]; exact a5)⟩
  rw [gA_sA]
  show _ = nI (if k = l then v else g.co k)
  by_cases q : k = l
  · rw [if_pos ⟨rfl, q⟩, if_pos q]
  · rw [if_neg (fun c => q c.2), if_neg q]; exact a4
theorem GC.slk {w : Wd} {g : Gm} (h : GC w g) (l v : Nat) : GC (sA w 55 l (nI v)) (g.slk l v) := by
  obtain ⟨h1, h2, h3, h4⟩ := h
  refine ⟨h1, fun k hk => ?_, fun i hi => (by rw [gA_sA, if_neg (by omega)]; exact h3 i hi), h4.frG (FrG.sA w 55 l _ (by omega))⟩
  obtain ⟨a1, a2, a3, a4, a5⟩ := h2 k hk
  refine ⟨(by rw [gA_sA, if_neg (by omega)]; exact a1), (by rw [gA_sA, if_neg (by omega)]; exact a2), (by rw [gA_sA, if_neg (by omega)]; exact a3), (by rw [gA_sA, if_neg (by omega)]; exact a4), ?_⟩
  rw [gA_sA]
  show _ = nI (if k = l then v else g.lk k)
  by_cases q : k = l
  · rw [if_pos ⟨rfl, q⟩, if_pos q]
  · rw [if_neg (fun c => q c.2), if_neg q]; exact a5
theorem CR.frG {w w' : Wd} {n : Nat} {r : Rs} (h : CR w 0 n r) (hF : ∀ k, gI w' 53 k = gI w 53 k) (e : ∀ o i, 56 ≤ o → o ≤ 60 → gA w' o i = gA w o i) : CR w' 0 n r := by
  obtain ⟨h1, h2, h3, h4, h5, h6, h7, h8⟩ := h
  exact ⟨fun l hl => ⟨(e 56 l (by omega) (by omega)).trans (h1 l hl).1, (e 57 l (by omega) (by omega)).trans (h1 l hl).2⟩, fun i hi => ⟨(e 58 i (by omega) (by omega)).trans (h2 i hi).1, (e 59 i (by omega) (by omega)).trans (h2 i hi).2⟩, (hF 7).trans h3, (hF 8).trans h4, (hF 9).trans h5, (hF 10).trans h6, (hF 11).trans h7, fun i hi ha => (e 60 i (by omega) (by omega)).trans (h8 i hi ha)⟩
/-- only the claims changed -/
def FrS (w w' : Wd) : Prop := (∀ o k, gI w' o k = gI w o k) ∧ (∀ o i, o ≠ 56 → o ≠ 57 → gA w' o i = gA w o i) ∧ w'.2.2 = w.2.2
theorem wh_shortenClaims {w : Wd} {n : Nat} {ow : Nat → Int32} {la : Nat → Nat} {Post : Wd → Prop} (hn : n ≤ 6) (hla : ∀ l, l < n → la l ≤ 3) (h1 : ∀ l, l < n → gA w 56 l = ow l ∧ gA w 57 l = nI (la l)) (h : ∀ w', FrS w w' → (∀ l, l < n → gA w' 56 l = (if la l ≤ 1 then -1 else ow l) ∧ gA w' 57 l = nI (la l - 1)) → Post w') : wp_X7_shortenClaims 0 w Post := by
  unfold wp_X7_shortenClaims
  intro J hJ
  have key : ∀ k i, i + k = 6 → ∀ w', FrS w w' → (∀ l, l < n → gA w' 56 l = (if l < i then (if la l ≤ 1 then -1 else ow l) else ow l) ∧ gA w' 57 l = nI (if l < i then la l - 1 else la l)) → J (nI i) w' := by
    intro k
    induction k with
    | zero =>
      intro i hi w' hF hv
      obtain rfl : i = 6 := by omega
      refine hJ _ _ ⟨fun _ => h w' hF (fun l hl => ?_), fun c => absurd (by decide) c⟩
      have := hv l hl
      have q6 : l < 6 := by omega
      rw [if_pos q6, if_pos q6] at this
      exact this
    | succ k ih =>
      intro i hi w' hF hv
      have nxt : ∀ w'', FrS w' w'' → (∀ l, l ≠ i → gA w'' 56 l = gA w' 56 l ∧ gA w'' 57 l = gA w' 57 l) → (i < n → gA w'' 56 i = (if la i ≤ 1 then -1 else ow i) ∧ gA w'' 57 i = nI (la i - 1)) → ∀ y, y = nI i + 1 → J y w'' := by
        intro w'' hF2 hsame hnew y e
        subst e
        rw [nI_1]
        refine ih (i + 1) (by omega) w'' ⟨fun o k => (hF2.1 o k).trans (hF.1 o k), fun o j q q2 => (hF2.2.1 o j q q2).trans (hF.2.1 o j q q2), hF2.2.2.trans hF.2.2⟩ (fun l hl => ?_)
        by_cases e : l = i
        · subst e
          have q1 : l < l + 1 := by omega
          rw [if_pos q1, if_pos q1]
          exact hnew hl
        · rw [(hsame l e).1, (hsame l e).2]
          have := hv l hl
          by_cases q : l < i
          · rw [if_pos q, if_pos q] at this
            have q1 : l < i + 1 := by omega
            rw [if_pos q1, if_pos q1]
            exact this
          · rw [if_neg q, if_neg q] at this
            have q1 : ¬ l < i + 1 := by omega
            rw [if_neg q1, if_neg q1]
            exact this
      have hin : vp_in (nI i) 6 := pk_in i 6 (by omega)
      refine hJ _ _ ⟨fun c => ?_, fun _ => ⟨hin, ?_⟩⟩
      · simp (disch := omega) only [fa_lit, nI_leI] at c
        omega
      rw [nI_clamp (by omega)]
      have hi2 : i < n → gA w' 57 i = nI (la i) := fun q => by
        have := (hv i q).2
        rw [if_neg (by omega)] at this
        exact this
      have hi1 : i < n → gA w' 56 i = ow i := fun q => by
        have := (hv i q).1
        rw [if_neg (by omega)] at this
        exact this
      refine ⟨fun c => ⟨hin, fun c2 => ⟨hin, ?_⟩, fun c2 => ?_⟩, fun c => ⟨hin, fun y3 e3 => ⟨hin, hin, fun c2 => ⟨hin, ?_⟩, fun c2 => ?_⟩⟩⟩
      · refine nxt _ ⟨fun _ _ => rfl, fun o j q _ => by rw [gA_sA, if_neg (fun c => q c.1)], rfl⟩ (fun l hl => ⟨by rw [gA_sA, if_neg (fun c => hl c.2)], by rw [gA_sA, if_neg (by omega)]⟩) (fun q => ?_)
        have c3 : gA w' 57 i = 0 := c2
        rw [hi2 q] at c3
        have hl3 := hla i q
        have c4 := nI_inj (b := 0) (by omega) (by omega) c3
        have c5 : la i ≤ 1 := by omega
        exact ⟨by rw [gA_sA, if_pos ⟨rfl, rfl⟩, if_pos c5], by rw [gA_sA, if_neg (by omega), hi2 q]; exact congrArg nI (by omega)⟩
      · refine nxt w' ⟨fun _ _ => rfl, fun _ _ _ _ => rfl, rfl⟩ (fun _ _ => ⟨rfl, rfl⟩) (fun q => ?_)
        have c3 : gA w' 57 i ≤ 0 := c
        have c4 : ¬ gA w' 57 i = 0 := c2
        have hl3 := hla i q
        rw [hi2 q, le0 (by omega)] at c3
        rw [hi2 q, c3] at c4
        exact absurd rfl c4
      · have e3' : y3 = gA w' 57 i - 1 := e3
        have c2' : y3 = 0 := by
          have : gA (sA w' 57 i y3) 57 i = 0 := c2
          rw [gA_sA, if_pos ⟨rfl, rfl⟩] at this
          exact this
        refine nxt _ ⟨fun _ _ => rfl, fun o j q q2 => by rw [gA_sA, if_neg (fun c => q c.1), gA_sA, if_neg (fun c => q2 c.1)], rfl⟩ (fun l hl => ⟨by rw [gA_sA, if_neg (fun c => hl c.2), gA_sA, if_neg (by omega)], by rw [gA_sA, if_neg (by omega), gA_sA, if_neg (fun c => hl c.2)]⟩) (fun q => ?_)
        have c3 : ¬ gA w' 57 i ≤ 0 := c
        have hl3 := hla i q
        rw [hi2 q, le0 (by omega)] at c3
        rw [hi2 q, show nI (la i) - 1 = nI (la i - 1) from pk_sub (b := 1) (by omega)] at e3'
        rw [e3'] at c2'
        have c4 := nI_inj (b := 0) (by omega) (by omega) c2'
        have c5 : la i ≤ 1 := by omega
        exact ⟨by rw [gA_sA, if_pos ⟨rfl, rfl⟩, if_pos c5], by rw [gA_sA, if_neg (by omega), gA_sA, if_pos ⟨rfl, rfl⟩, e3']⟩
      · have e3' : y3 = gA w' 57 i - 1 := e3
        have c2' : ¬ y3 = 0 := by
          have : ¬ gA (sA w' 57 i y3) 57 i = 0 := c2
          rw [gA_sA, if_pos ⟨rfl, rfl⟩] at this
          exact this
        refine nxt _ ⟨fun _ _ => rfl, fun o j q q2 => by rw [gA_sA, if_neg (fun c => q2 c.1)], rfl⟩ (fun l hl => ⟨by rw [gA_sA, if_neg (by omega)], by rw [gA_sA, if_neg (fun c => hl c.2)]⟩) (fun q => ?_)
        have c3 : ¬ gA w' 57 i ≤ 0 := c
        have hl3 := hla i q
        rw [hi2 q, le0 (by omega)] at c3
        rw [hi2 q, show nI (la i) - 1 = nI (la i - 1) from pk_sub (b := 1) (by omega)] at e3'
        have c4 : ¬ la i - 1 = 0 := fun c => c2' (by rw [e3', c]; rfl)
        have c5 : ¬ la i ≤ 1 := by omega
        exact ⟨by rw [gA_sA, if_neg (by omega), if_neg c5]; exact hi1 q, by rw [gA_sA, if_pos ⟨rfl, rfl⟩, e3']⟩
  exact key 6 0 (by omega) w ⟨fun _ _ => rfl, fun _ _ _ _ => rfl, rfl⟩ (fun l hl => by rw [if_neg (by omega), if_neg (by omega)]; exact h1 l hl)
theorem row_ix0 {a : Nat} (h : a < 2 ^ 30) : (nI a - nI a / 16 * 16) * 5 = nI (rowN a) := by
  have e := pk_rem (a := a) (d := 16) (by omega) (by omega) (by omega)
  rw [fa_lit, fa_lit, e, pk_mul]
  rfl
theorem nI_p0 (a : Nat) : nI a + 0 = nI a := nI_add a 0
theorem nI_pL (a k : Nat) : nI a + (OfNat.ofNat k : Int32) = nI (a + k) := nI_add a k
set_option maxHeartbeats 1000000 in
theorem wh_finishAct {w : Wd} {b n : Nat} {r : Rs} {k l x y : Int32} {Post : Wd → Prop} (hn : n ≤ 6) (hr : r.ok b n) (hb : b < 2 ^ 30) (hR : CR w 0 n r) (h : ∀ w', CR w' 0 n (finR r k l x y) → FrG w w' → (∀ o i, o ≠ 56 → o ≠ 57 → o ≠ 60 → gA w' o i = gA w o i) → Post w') : wp_X7_finishAct 0 w k l x y Post := by
  obtain ⟨t1, t2, t3, t4⟩ := id hr
  obtain ⟨h1, h2, h3, h4, h5, h6, h7, h8⟩ := id hR
  have hrow := rowN_lt r.ac
  unfold wp_X7_finishAct
  intro y1 e1
  rw [show gI w (53 + 8 * 0) 8 = nI r.ac from h4, row_ix0 (by omega)] at e1
  subst e1
  rw [nI_p0, nI_1, show nI (rowN r.ac) + 2 = nI (rowN r.ac + 2) from nI_pL _ 2, show nI (rowN r.ac) + 3 = nI (rowN r.ac + 3) from nI_pL _ 3, show nI (rowN r.ac) + 4 = nI (rowN r.ac + 4) from nI_pL _ 4, nI_clamp (show rowN r.ac < 2 ^ 31 by omega), nI_clamp (show rowN r.ac + 1 < 2 ^ 31 by omega), nI_clamp (show rowN r.ac + 2 < 2 ^ 31 by omega), nI_clamp (show rowN r.ac + 3 < 2 ^ 31 by omega), nI_clamp (show rowN r.ac + 4 < 2 ^ 31 by omega)]
  refine ⟨pk_in (rowN r.ac) 80 (by omega), fun y2 e2 => ⟨pk_in (rowN r.ac + 1) 80 (by omega), pk_in (rowN r.ac + 2) 80 (by omega), pk_in (rowN r.ac + 3) 80 (by omega), pk_in (rowN r.ac + 4) 80 (by omega), fun y3 e3 => ?_⟩⟩
  rw [gI_sA, show gI w (53 + 8 * 0) 7 = nI r.tu from h3] at e2
  subst e2
  rw [gI_sA, gI_sA, gI_sA, gI_sA, gI_sA, show gI w (53 + 8 * 0) 8 = nI r.ac from h4, nI_1] at e3
  subst e3
  generalize hW : sI (sA (sA (sA (sA (sA w (53 + 8 * 0 + 7) (rowN r.ac) k) (53 + 8 * 0 + 7) (rowN r.ac + 1) (nI r.tu)) (53 + 8 * 0 + 7) (rowN r.ac + 2) l) (53 + 8 * 0 + 7) (rowN r.ac + 3) x) (53 + 8 * 0 + 7) (rowN r.ac + 4) y) (53 + 8 * 0) 8 (nI (r.ac + 1)) = W1
  have wI : ∀ o j, gI W1 o j = if o = 53 ∧ j = 8 then nI (r.ac + 1) else gI w o j := fun o j => by
    rw [← hW, gI_sI]
    rfl
  have wA : ∀ o i, gA W1 o i = if o = 60 then lgU (gA w 60) r.ac k (nI r.tu) l x y i else gA w o i := fun o i => by
    rw [← hW, gA_sI]
    simp only [gA_sA]
    by_cases q : o = 60
    · subst q
      unfold lgU
      simp
    · simp [q]
  have wD : W1.2.2 = w.2.2 := by rw [← hW]; rfl
  refine wh_shortenClaims hn (fun l hl => (t3 l hl).1) (ow := r.ow) (la := r.la) (fun l hl => ?_) (fun w' hF hv => ?_)
  · rw [wA, if_neg (by omega), wA, if_neg (by omega)]
    exact h1 l hl
  · unfold wp_X7_ban
    intro y4 e4
    have e4' : y4 = 1 - gI w' 53 7 := by
      rw [e4]
      simp [gI_sI]
    rw [hF.1, wI, if_neg (by omega), h3, show 1 - nI r.tu = nI (1 - r.tu) from pk_sub (a := 1) t1] at e4'
    refine h _ ⟨fun l hl => ?_, fun i hi => ?_, ?_, ?_, ?_, ?_, ?_, fun i hi ha => ?_⟩ ⟨fun o j q => ?_, fun o j q => ?_, ?_⟩ (fun o j q1 q2 q3 => ?_)
    · exact hv l hl
    · show gA w' 58 i = nI (r.tk i) ∧ gA w' 59 i = r.ct i
      rw [hF.2.1 58 i (by decide) (by decide), hF.2.1 59 i (by decide) (by decide), wA, if_neg (by decide), wA, if_neg (by decide)]
      exact h2 i hi
    · rw [gI_sI, if_pos ⟨rfl, rfl⟩]
      exact e4'
    · rw [gI_sI, if_neg (by omega), gI_sI, if_neg (by omega), gI_sI, if_neg (by omega), gI_sI, if_neg (by omega)]
      rw [hF.1, wI, if_pos ⟨rfl, rfl⟩]
      rfl
    · rw [gI_sI, if_neg (by omega), gI_sI, if_neg (by omega), gI_sI, if_neg (by omega), gI_sI, if_pos ⟨rfl, rfl⟩]
      rfl
    · rw [gI_sI, if_neg (by omega), gI_sI, if_neg (by omega), gI_sI, if_pos ⟨rfl, rfl⟩]
      rfl
    · rw [gI_sI, if_neg (by omega), gI_sI, if_pos ⟨rfl, rfl⟩]
      rfl
    · show gA w' 60 i = lgU r.lg r.ac k (nI r.tu) l x y i
      rw [hF.2.1 60 i (by decide) (by decide), wA, if_pos rfl]
      unfold lgU
      by_cases q4 : i = rowN r.ac + 4
      · rw [if_pos q4, if_pos q4]
      rw [if_neg q4, if_neg q4]
      by_cases q3 : i = rowN r.ac + 3
      · rw [if_pos q3, if_pos q3]
      rw [if_neg q3, if_neg q3]
      by_cases q2 : i = rowN r.ac + 2
      · rw [if_pos q2, if_pos q2]
      rw [if_neg q2, if_neg q2]
      by_cases q1 : i = rowN r.ac + 1
      · rw [if_pos q1, if_pos q1]
      rw [if_neg q1, if_neg q1]
      by_cases q0 : i = rowN r.ac
      · rw [if_pos q0, if_pos q0]
      rw [if_neg q0, if_neg q0]
      refine h8 i hi ?_
      have ha : i / 5 < r.ac + 1 := ha
      unfold rowN at q0 q1 q2 q3 q4
      omega
    · show gI (sI (sI (sI (sI w' 53 9 (-1)) 53 10 (-1)) 53 11 (-1)) 53 7 y4) o j = gI w o j
      rw [gI_sI, if_neg (by omega), gI_sI, if_neg (by omega), gI_sI, if_neg (by omega), gI_sI, if_neg (by omega), hF.1, wI, if_neg (by omega)]
    · show gA w' o j = gA w o j
      rw [hF.2.1 o j (by omega) (by omega), wA, if_neg (by omega)]
    · show w'.2.2 = w.2.2
      exact hF.2.2.trans wD
    · show gA w' o j = gA w o j
      rw [hF.2.1 o j q1 q2, wA, if_neg q3]
theorem wh_addToCount {w : Wd} {b n k : Nat} {r : Rs} {a : Int32} {Post : Wd → Prop} (hr : r.ok b n) (hR : CR w 0 n r) (hk : k < 3) (h : ∀ w', CR w' 0 n (r.act k a) → FrG w w' → (∀ o i, o ≠ 59 → gA w' o i = gA w o i) → Post w') : wp_X7_addToCount 0 w (nI k) a Post := by
  have ht := hr.1
  obtain ⟨h1, h2, h3, h4, h5, h6, h7, h8⟩ := id hR
  unfold wp_X7_addToCount
  rw [show gI w (53 + 8 * 0) 7 = nI r.tu from h3]
  intro y1 e1
  rw [show nI r.tu * 3 + nI k = nI (3 * r.tu + k) by rw [fa_lit, pk_mul, nI_add, Nat.mul_comm]] at e1
  subst e1
  rw [nI_clamp (by omega), show gA w (53 + 8 * 0 + 6) (3 * r.tu + k) = r.ct (3 * r.tu + k) from (h2 _ (by omega)).2]
  refine ⟨pk_in (3 * r.tu + k) 6 (by omega), fun y2 e2 => ⟨pk_in (3 * r.tu + k) 6 (by omega), ?_⟩⟩
  subst e2
  refine h _ ⟨fun l hl => ?_, fun i hi => ?_, h3, h4, h5, h6, h7, fun i hi ha => ?_⟩ (FrG.sA w 59 _ _ (by omega)) (fun o i q => ?_)
  · exact h1 l hl
  · show gA w 58 i = nI (r.tk i) ∧ gA (sA w 59 (3 * r.tu + k) (r.ct (3 * r.tu + k) + a)) 59 i = (if i = 3 * r.tu + k then r.ct i + a else r.ct i)
    refine ⟨(h2 i hi).1, ?_⟩
    rw [gA_sA]
    by_cases q : i = 3 * r.tu + k
    · rw [if_pos ⟨rfl, q⟩, if_pos q, q]
    · rw [if_neg (fun c => q c.2), if_neg q]
      exact (h2 i hi).2
  · exact h8 i hi ha
  · rw [gA_sA, if_neg (fun c => q c.1)]

/-! the model reads a text -/
def MErr (w : Wd) (e : Nat) : Prop := ∃ k off, gI w 15 8 = nI k ∧ 1 ≤ k ∧ k ≤ 4 ∧ gI w 15 9 = nI off ∧ off ≤ 400 ∧ e = 8 * off + k
def MS (w : Wd) (buf : Nat → Int32) (lim : Nat) (x : Except Nat Tk) : Prop := (∀ e, x = .error e → MErr w e) ∧ ∀ t, x = .ok t → MTk w buf lim t ∧ TkO lim t ∧ gI w 15 8 = 0
theorem MErr.ne {w : Wd} {e : Nat} (h : MErr w e) : ¬ gI w 15 8 = 0 := by
  obtain ⟨k, off, h1, h2, h3, _⟩ := h
  rw [h1]
  exact nI_ne0 (by omega) (by omega)
/-- the draft is the same, and all but the token and the error -/
def FrO (w w' : Wd) : Prop := (∀ o k, ¬ (o = 15 ∧ 4 ≤ k ∧ k ≤ 9) → gI w' o k = gI w o k) ∧ (∀ o i, gA w' o i = gA w o i)
theorem FrO.rf (w : Wd) : FrO w w := ⟨fun _ _ _ => rfl, fun _ _ => rfl⟩
theorem FrO.tr {a b c : Wd} (h : FrO a b) (g : FrO b c) : FrO a c := ⟨fun o s q => (g.1 o s q).trans (h.1 o s q), fun o i => (g.2 o i).trans (h.2 o i)⟩
theorem FrP.O {w w' : Wd} (h : FrP w w') : FrO w w' := ⟨fun o k q => h.1 o k (by omega), h.2⟩
/-- all but the token, the error and the draft -/
def FrU (w w' : Wd) : Prop := (∀ o k, ¬ (o = 15 ∧ 4 ≤ k ∧ k ≤ 12) → gI w' o k = gI w o k) ∧ (∀ o i, o ≠ 17 → gA w' o i = gA w o i)
theorem FrU.rf (w : Wd) : FrU w w := ⟨fun _ _ _ => rfl, fun _ _ _ => rfl⟩
theorem FrU.tr {a b c : Wd} (h : FrU a b) (g : FrU b c) : FrU a c := ⟨fun o s q => (g.1 o s q).trans (h.1 o s q), fun o i q => (g.2 o i q).trans (h.2 o i q)⟩
theorem FrO.U {w w' : Wd} (h : FrO w w') : FrU w w' := ⟨fun o k q => h.1 o k (by omega), fun o i _ => h.2 o i⟩
theorem FrU.a (w : Wd) (i : Nat) (x : Int32) : FrU w (sA w 17 i x) := ⟨fun _ _ _ => rfl, fun o j q => by rw [gA_sA, if_neg (fun c => q c.1)]⟩
theorem FrU.s (w : Wd) (k : Nat) (x : Int32) (h : 4 ≤ k ∧ k ≤ 12) : FrU w (sI w 15 k x) := ⟨fun o j q => by rw [gI_sI, if_neg (by omega)], fun _ _ _ => rfl⟩
theorem mK_e {k : Nat} (h : k ≤ 4) : (mK k = 2 ↔ k = 3) ∧ (mK k = 1 ↔ k = 2) ∧ (mK k = 3 ↔ k = 4) ∧ (mK k = 0 ↔ k = 0) ∧ mK k ≤ 4 := by
  rcases (show k = 0 ∨ k = 1 ∨ k = 2 ∨ k = 3 ∨ k = 4 by omega) with rfl | rfl | rfl | rfl | rfl <;> decide
theorem mK_n {k j : Nat} (h : k ≤ 4) (hj : j ≤ 4) : nI (mK k) = nI j ↔ mK k = j := nI_eq (by have := (mK_e h).2.2.2.2; omega) (by omega)
theorem wm_must_ok {w : Wd} {p1 p2 : Int32} {Post : Int32 → Wd → Prop} (h8 : gI w 15 8 = 0) (hp : ¬ p1 = 0) (h : Post 1 w) : wp_X9_must w p1 p2 Post := by
  unfold wp_X9_must
  rw [h8]
  exact ⟨fun _ => ⟨fun c => absurd c hp, fun _ => ⟨fun _ => h, fun c => absurd rfl c⟩⟩, fun c => absurd rfl c⟩
theorem wm_must_bad {w : Wd} {k st : Nat} {Post : Int32 → Wd → Prop} (h8 : gI w 15 8 = 0) (h4 : gI w 15 4 = nI st) (hk : 1 ≤ k ∧ k ≤ 4) (hst : st ≤ 400) (h : ∀ w', FrO w w' → MErr w' (8 * st + k) → Post 0 w') : wp_X9_must w 0 (nI k) Post := by
  unfold wp_X9_must
  rw [h8]
  refine ⟨fun _ => ⟨fun _ y1 e1 => ?_, fun c => absurd rfl c⟩, fun c => absurd rfl c⟩
  rw [gI_sI, if_neg (by omega), h4] at e1
  subst e1
  have e8 : gI (sI (sI w 15 8 (nI k)) 15 9 (nI st)) 15 8 = nI k := by rw [gI_sI, if_neg (by omega), gI_sI, if_pos ⟨rfl, rfl⟩]
  rw [e8]
  refine ⟨fun c => absurd c (nI_ne0 (by omega) (by omega)), fun _ => h _ ⟨fun o j q => by rw [gI_sI, if_neg (by omega), gI_sI, if_neg (by omega)], fun _ _ => rfl⟩ ⟨k, st, e8, hk.1, hk.2, by rw [gI_sI, if_pos ⟨rfl, rfl⟩], hst, rfl⟩⟩
theorem wm_must_err {w : Wd} {p1 p2 : Int32} {Post : Int32 → Wd → Prop} (h8 : ¬ gI w 15 8 = 0) (h : Post 0 w) : wp_X9_must w p1 p2 Post := by
  unfold wp_X9_must
  exact ⟨fun c => absurd c h8, fun _ => ⟨fun c => absurd c h8, fun _ => h⟩⟩
def nxE (buf : Nat → Int32) (lim : Nat) (x : Except Nat Tk) : Except Nat Tk := match x with
  | .error e => .error e
  | .ok t => .ok (tokN buf lim t.en)
def lkE (x : Except Nat Tk) (b : Tk → Bool) : Except Nat Tk := match x with
  | .error e => .error e
  | .ok t => match numB t (b t) with
    | .error e => .error e
    | .ok _ => .ok t
def stE (buf : Nat → Int32) (lim : Nat) (x : Except Nat Tk) (hi most : Nat) : Except Nat Tk := match x with
  | .error e => .error e
  | .ok t => match setF buf lim hi most (most + 2) 0 0 t with
    | .error e => .error e
    | .ok (_, t') => .ok t'
theorem MS.err {w : Wd} {buf : Nat → Int32} {lim e : Nat} (h : MErr w e) : MS w buf lim (.error e) := ⟨fun e' q => (by cases q; exact h), fun t q => (by cases q)⟩
theorem MS.ok {w : Wd} {buf : Nat → Int32} {lim : Nat} {t : Tk} (h : MTk w buf lim t) (h2 : TkO lim t) (h3 : gI w 15 8 = 0) : MS w buf lim (.ok t) := ⟨fun e q => (by cases q), fun t' q => (by cases q; exact ⟨h, h2, h3⟩)⟩
theorem MErr.of {w w' : Wd} {e : Nat} (h : MErr w e) (e8 : gI w' 15 8 = gI w 15 8) (e9 : gI w' 15 9 = gI w 15 9) : MErr w' e := by
  obtain ⟨k, off, h1, h2, h3, h4, h5, h6⟩ := h
  exact ⟨k, off, e8.trans h1, h2, h3, e9.trans h4, h5, h6⟩
theorem MTk.of {w w' : Wd} {buf : Nat → Int32} {lim : Nat} {t : Tk} (h : MTk w buf lim t) (e : ∀ k, 3 ≤ k → k ≤ 7 → gI w' 15 k = gI w 15 k) (e2 : ∀ i, gA w' 16 i = gA w 16 i) : MTk w' buf lim t := by
  obtain ⟨h1, h2, h3, h4, h5, h6⟩ := h
  exact ⟨(e 3 (by omega) (by omega)).trans h1, (e 4 (by omega) (by omega)).trans h2, (e 5 (by omega) (by omega)).trans h3, (e 6 (by omega) (by omega)).trans h4, fun q => (e 7 (by omega) (by omega)).trans (h5 q), fun i hi => (e2 i).trans (h6 i hi)⟩
theorem MS.a {w : Wd} {buf : Nat → Int32} {lim : Nat} {x : Except Nat Tk} (h : MS w buf lim x) (i : Nat) (v : Int32) : MS (sA w 17 i v) buf lim x := ⟨fun e q => (h.1 e q).of rfl rfl, fun t q => ⟨(h.2 t q).1.of (fun _ _ _ => rfl) (fun j => by rw [gA_sA, if_neg (by omega)]), (h.2 t q).2⟩⟩
theorem wm_nextE {w : Wd} {buf : Nat → Int32} {lim : Nat} {t : Tk} {Post : Wd → Prop} (hlim : lim ≤ 400) (hby : ∀ i, i < lim → byI (buf i)) (hT : MTk w buf lim t) (ht : TkO lim t) (h8 : gI w 15 8 = 0) (h : ∀ w', FrO w w' → MS w' buf lim (.ok (tokN buf lim t.en)) → Post w') : wp_X9_nextToken w Post :=
  wm_nextToken hlim hby hT.1 hT.2.2.1 ht.2.1 hT.2.2.2.2.2 (fun w' hF hT' => h w' hF.O (MS.ok hT' (TkO_n ht.2.1).1 ((hF.1 15 8 (by omega)).trans h8)))
theorem wm_goOnX {w : Wd} {buf : Nat → Int32} {lim : Nat} {x : Except Nat Tk} {Post : Wd → Prop} (hlim : lim ≤ 400) (hby : ∀ i, i < lim → byI (buf i)) (hS : MS w buf lim x) (h : ∀ w', FrO w w' → MS w' buf lim (nxE buf lim x) → Post w') : wp_X9_goOn w Post := by
  unfold wp_X9_goOn
  cases x with
  | error e =>
    have he := hS.1 e rfl
    exact ⟨fun c => absurd c he.ne, fun _ => h w (FrO.rf w) hS⟩
  | ok t =>
    obtain ⟨hT, ht, h8⟩ := hS.2 t rfl
    exact ⟨fun _ => wm_nextE hlim hby hT ht h8 h, fun c => absurd h8 c⟩
theorem wm_lookX {w : Wd} {buf : Nat → Int32} {lim : Nat} {x : Except Nat Tk} {lo : Nat} {hi : Int32} {b : Tk → Bool} {Post : Int32 → Wd → Prop} (hlim : lim ≤ 400) (hS : MS w buf lim x) (hb : ∀ t, x = .ok t → t.kd = 3 → (b t = true ↔ ¬ (nI t.nm < nI lo ∨ hi < nI t.nm))) (h : ∀ v w', MS w' buf lim (lkE x b) → FrO w w' → (∀ t, lkE x b = .ok t → v = t.nm ∧ x = .ok t ∧ t.kd = 3 ∧ b t = true) → (∀ e, lkE x b = .error e → v = lo) → Post (nI v) w') : wp_X9_look w (nI lo) hi Post := by
  unfold wp_X9_look
  cases x with
  | error e =>
    have he := hS.1 e rfl
    have hp := h lo w hS (FrO.rf w) (fun t q => by cases q) (fun _ _ => rfl)
    exact ⟨fun _ => wm_must_err he.ne ⟨fun _ => hp, fun c => absurd rfl c⟩, fun _ => wm_must_err he.ne ⟨fun _ => hp, fun c => absurd rfl c⟩⟩
  | ok t =>
    obtain ⟨hT, ht, h8⟩ := hS.2 t rfl
    obtain ⟨o1, o2, o3, o4, o5⟩ := id ht
    have hst : t.st ≤ 400 := by omega
    rw [hT.2.2.2.1]
    have e0 : lkE (.ok t) b = match numB t (b t) with | .error e => .error e | .ok _ => .ok t := rfl
    refine ⟨fun c => ?_, fun c => ?_⟩
    · have c' : t.kd = 3 := (mK_e o3).1.mp ((mK_n (j := 2) o3 (by omega)).mp c)
      have hbt := hb t rfl c'
      refine wm_must_ok h8 (by decide) ⟨fun q => absurd q (by decide), fun _ => ?_⟩
      rw [hT.2.2.2.2.1 c']
      refine wm_within (fun c2 => ?_) (fun c2 => ?_)
      · have nb : ¬ b t = true := fun q => (hbt.mp q) c2
        have en : numB t (b t) = .error (8 * t.st + 2) := by unfold numB; rw [if_pos c', if_neg nb]
        rw [en] at e0
        simp only at e0
        refine wm_must_bad (k := 2) h8 hT.2.1 (by omega) hst (fun w' hF he => ⟨fun _ => ?_, fun q => absurd rfl q⟩)
        exact h lo w' (by rw [e0]; exact MS.err he) hF (fun t' q => by rw [e0] at q; cases q) (fun _ _ => rfl)
      · have nb : b t = true := hbt.mpr c2
        have en : numB t (b t) = .ok t.nm := by unfold numB; rw [if_pos c', if_pos nb]
        rw [en] at e0
        simp only at e0
        refine wm_must_ok h8 (by decide) ⟨fun q => absurd q (by decide), fun _ => ?_⟩
        rw [hT.2.2.2.2.1 c']
        exact h t.nm w (by rw [e0]; exact hS) (FrO.rf w) (fun t' q => by rw [e0] at q; cases q; exact ⟨rfl, rfl, c', nb⟩) (fun e q => by rw [e0] at q; cases q)
    · have c' : ¬ t.kd = 3 := fun q => c (by rw [q]; rfl)
      have en : numB t (b t) = .error (8 * t.st + 1) := by unfold numB; rw [if_neg c']
      rw [en] at e0
      simp only at e0
      refine wm_must_bad (k := 1) h8 hT.2.1 (by omega) hst (fun w' hF he => ⟨fun _ => ?_, fun q => absurd rfl q⟩)
      exact h lo w' (by rw [e0]; exact MS.err he) hF (fun t' q => by rw [e0] at q; cases q) (fun _ _ => rfl)
theorem wm_readX {w : Wd} {buf : Nat → Int32} {lim : Nat} {x : Except Nat Tk} {lo : Nat} {hi : Int32} {b : Tk → Bool} {Post : Int32 → Wd → Prop} (hlim : lim ≤ 400) (hby : ∀ i, i < lim → byI (buf i)) (hS : MS w buf lim x) (hb : ∀ t, x = .ok t → t.kd = 3 → (b t = true ↔ ¬ (nI t.nm < nI lo ∨ hi < nI t.nm))) (h : ∀ v w', MS w' buf lim (nxE buf lim (lkE x b)) → FrO w w' → (∀ t, lkE x b = .ok t → v = t.nm ∧ x = .ok t ∧ t.kd = 3 ∧ b t = true) → (∀ e, lkE x b = .error e → v = lo) → Post (nI v) w') : wp_X9_read w (nI lo) hi Post := by
  unfold wp_X9_read
  exact wm_lookX hlim hS hb (fun v w1 hS1 hF1 hv he => wm_goOnX hlim hby hS1 (fun w2 hF2 hS2 => h v w2 hS2 (hF1.tr hF2) hv he))
theorem num_dec2 {v lo hi : Nat} (hv : v ≤ 99) (hl : lo ≤ 99) (hh : hi ≤ 99) : decide (lo ≤ v ∧ v ≤ hi) = true ↔ ¬ (nI v < nI lo ∨ nI hi < nI v) := by
  rw [decide_eq_true_eq, nI_ltI (by omega) (by omega), nI_ltI (by omega) (by omega)]
  omega
set_option maxHeartbeats 4000000 in
theorem wm_readSetX {w : Wd} {buf : Nat → Int32} {lim hi most : Nat} {x : Except Nat Tk} {Post : Int32 → Wd → Prop} (hlim : lim ≤ 400) (hby : ∀ i, i < lim → byI (buf i)) (hhi : hi ≤ 12) (hmost : 1 ≤ most ∧ most ≤ 9) (hS : MS w buf lim x) (h : ∀ v w', v < 8192 → MS w' buf lim (stE buf lim x hi most) → FrO w w' → (∀ t b t', x = .ok t → setF buf lim hi most (most + 2) 0 0 t = .ok (b, t') → v = b) → Post (nI v) w') : wp_X9_readSet w (nI hi) (nI most) Post := by
  have h13 : 2 ^ (hi + 1) ≤ 8192 := Nat.le_trans (Nat.pow_le_pow_right (by decide) (show hi + 1 ≤ 13 by omega)) (by decide)
  unfold wp_X9_readSet
  intro J hJ
  -- the loop where there is an error already, or one comes
  have bad : ∀ (bits n : Nat) (w' : Wd) (e : Nat), bits < 8192 → MErr w' e → Post (nI bits) w' → wp_X9_has w' (nI bits) (nI 1) (fun r2 w2 => (r2 = 0 → (wp_X9_must w2 1 3 (fun r6 w8 => (r6 = 0 → (Post (nI bits) w8)) ∧ (¬ r6 = 0 → ((nI most ≤ nI n → (wp_X9_must w8 0 4 (fun r7 w9 => (r7 = 0 → (Post (nI bits) w9)) ∧ (¬ r7 = 0 → (∀ y5 : Int32, y5 = nI bits ||| ((1 : Int32) <<< ((nI 1) &&& 31)) → (∀ y6 : Int32, y6 = nI n + 1 → (wp_X9_goOn w9 (fun w10 => ((gI w10 15 8) = 0 → (((gI w10 15 6) = 2 → (J y5 y6 1 w10)) ∧ (¬ (gI w10 15 6) = 2 → (J y5 y6 0 w10)))) ∧ (¬ (gI w10 15 8) = 0 → (J y5 y6 0 w10)))))))))) ∧ (¬ nI most ≤ nI n → (wp_X9_must w8 1 4 (fun r8 w11 => (r8 = 0 → (Post (nI bits) w11)) ∧ (¬ r8 = 0 → (∀ y7 : Int32, y7 = nI bits ||| ((1 : Int32) <<< ((nI 1) &&& 31)) → (∀ y8 : Int32, y8 = nI n + 1 → (wp_X9_goOn w11 (fun w12 => ((gI w12 15 8) = 0 → (((gI w12 15 6) = 2 → (J y7 y8 1 w12)) ∧ (¬ (gI w12 15 6) = 2 → (J y7 y8 0 w12)))) ∧ (¬ (gI w12 15 8) = 0 → (J y7 y8 0 w12))))))))))))))) ∧ (¬ r2 = 0 → (wp_X9_must w2 0 3 (fun r3 w3 => (r3 = 0 → (Post (nI bits) w3)) ∧ (¬ r3 = 0 → ((nI most ≤ nI n → (wp_X9_must w3 0 4 (fun r4 w4 => (r4 = 0 → (Post (nI bits) w4)) ∧ (¬ r4 = 0 → (∀ y1 : Int32, y1 = nI bits ||| ((1 : Int32) <<< ((nI 1) &&& 31)) → (∀ y2 : Int32, y2 = nI n + 1 → (wp_X9_goOn w4 (fun w5 => ((gI w5 15 8) = 0 → (((gI w5 15 6) = 2 → (J y1 y2 1 w5)) ∧ (¬ (gI w5 15 6) = 2 → (J y1 y2 0 w5)))) ∧ (¬ (gI w5 15 8) = 0 → (J y1 y2 0 w5)))))))))) ∧ (¬ nI most ≤ nI n → (wp_X9_must w3 1 4 (fun r5 w6 => (r5 = 0 → (Post (nI bits) w6)) ∧ (¬ r5 = 0 → (∀ y3 : Int32, y3 = nI bits ||| ((1 : Int32) <<< ((nI 1) &&& 31)) → (∀ y4 : Int32, y4 = nI n + 1 → (wp_X9_goOn w6 (fun w7 => ((gI w7 15 8) = 0 → (((gI w7 15 6) = 2 → (J y3 y4 1 w7)) ∧ (¬ (gI w7 15 6) = 2 → (J y3 y4 0 w7)))) ∧ (¬ (gI w7 15 8) = 0 → (J y3 y4 0 w7)))))))))))))))) := by
    intro bits n w' e hbits he hp
    refine wh_has (by omega) (by omega) ?_
    exact ⟨fun _ => wm_must_err he.ne ⟨fun _ => hp, fun q => absurd rfl q⟩, fun _ => wm_must_err he.ne ⟨fun _ => hp, fun q => absurd rfl q⟩⟩
  cases x with
  | error e =>
    have he := hS.1 e rfl
    refine hJ _ _ _ _ ⟨fun c => absurd c (by decide), fun _ => ?_⟩
    refine wm_lookX (x := .error e) (lo := 1) (b := fun _ => true) hlim hS (fun t q => by cases q) (fun v w1 hS1 hF1 _ hv => ?_)
    obtain rfl := hv e rfl
    exact bad 0 0 w1 e (by omega) (hS1.1 e rfl) (h 0 w1 (by omega) hS1 hF1 (fun t b t' q => by cases q))
  | ok t0 =>
    obtain ⟨hT0, ht0, h80⟩ := hS.2 t0 rfl
    have hst : stE buf lim (.ok t0) hi most = match setF buf lim hi most (most + 2) 0 0 t0 with | .error e => .error e | .ok (_, t') => .ok t' := rfl
    generalize hR : setF buf lim hi most (most + 2) 0 0 t0 = R at hst
    have fE : ∀ e v w', R = .error e → v < 8192 → MErr w' e → FrO w w' → Post (nI v) w' := by
      intro e v w' hRe hv he hF
      subst hRe
      refine h v w' hv (by rw [hst]; exact MS.err he) hF (fun t b t' q q2 => ?_)
      cases q
      rw [hR] at q2
      cases q2
    have fO : ∀ b t' w', R = .ok (b, t') → b < 8192 → MS w' buf lim (.ok t') → FrO w w' → Post (nI b) w' := by
      intro b t' w' hRe hv hS' hF
      subst hRe
      refine h b w' hv (by rw [hst]; exact hS') hF (fun t b2 t2 q q2 => ?_)
      cases q
      rw [hR] at q2
      cases q2
      rfl
    have key : ∀ k n, n + k = most + 2 → n ≤ most → ∀ bits t w', setF buf lim hi most k bits n t = R → bits < 2 ^ (hi + 1) → MS w' buf lim (.ok t) → FrO w w' → J (nI bits) (nI n) (if n = 0 ∨ t.kd = 3 then 1 else 0) w' := by
      intro k
      induction k with
      | zero => intro n h1 h2; omega
      | succ k ih =>
        intro n hn hnm bits t w' heq hbits hSt hF
        obtain ⟨hT, ht, h8⟩ := hSt.2 t rfl
        obtain ⟨o1, o2, o3, o4, o5⟩ := id ht
        unfold setF at heq
        by_cases q : n = 0 ∨ t.kd = 3
        · rw [if_pos q]
          rw [if_pos q] at heq
          refine hJ _ _ _ _ ⟨fun c => absurd c (by decide), fun _ => ?_⟩
          refine wm_lookX (x := .ok t) (lo := 1) (b := fun t => decide (1 ≤ t.nm ∧ t.nm ≤ hi)) hlim hSt (fun t' e _ => by cases e; exact num_dec2 o5 (by omega) (by omega)) (fun v w1 hS1 hF1 hok herr => ?_)
          have e0 : lkE (.ok t) (fun t => decide (1 ≤ t.nm ∧ t.nm ≤ hi)) = match numE t 1 hi with | .error e => .error e | .ok _ => .ok t := rfl
          cases hnE : numE t 1 hi with
          | error e =>
            rw [hnE] at e0 heq
            simp only at e0 heq
            obtain rfl := herr e e0
            rw [e0] at hS1
            exact bad bits n w1 e (by omega) (hS1.1 e rfl) (fE e bits w1 heq.symm (by omega) (hS1.1 e rfl) (hF.tr hF1))
          | ok v' =>
            rw [hnE] at e0 heq
            simp only at e0 heq
            obtain ⟨v1, v2, v3, v4⟩ := numE_ok hnE
            obtain ⟨hvn, _, hk3, _⟩ := hok t e0
            rw [e0] at hS1
            obtain ⟨hT1, ht1, h81⟩ := hS1.2 t rfl
            obtain rfl : v = v' := by omega
            refine wh_has (by omega) (by omega) ?_
            rw [bI_0]
            refine ⟨fun c => ?_, fun c => ?_⟩
            · rw [if_neg (by rw [c]; decide)] at heq
              refine wm_must_ok h81 (by decide) ⟨fun q => absurd q (by decide), fun _ => ⟨fun c2 => ?_, fun c2 => ?_⟩⟩
              · simp (disch := omega) only [nI_leI] at c2
                rw [if_pos (by omega)] at heq
                refine wm_must_bad (k := 4) h81 hT1.2.1 (by omega) (by omega) (fun w2 hF2 he => ⟨fun _ => ?_, fun q => absurd rfl q⟩)
                exact fE _ bits w2 heq.symm (by omega) he ((hF.tr hF1).tr hF2)
              · simp (disch := omega) only [nI_leI] at c2
                rw [if_neg (by omega)] at heq
                refine wm_must_ok h81 (by decide) ⟨fun q => absurd q (by decide), fun _ y7 e7 y8 e8 => ?_⟩
                rw [nI_shl1 (by omega), fa_or] at e7
                subst e7 e8
                rw [nI_1]
                refine wm_goOnX hlim hby hS1 (fun w3 hF3 hS3 => ?_)
                have hS3 : MS w3 buf lim (.ok (tokN buf lim t.en)) := hS3
                obtain ⟨hT3, ht3, h83⟩ := hS3.2 _ rfl
                have nx := ih (n + 1) (by omega) (by omega) _ _ w3 heq (Nat.or_lt_two_pow hbits (Nat.pow_lt_pow_right (by omega) (by omega))) hS3 ((hF.tr hF1).tr hF3)
                rw [hT3.2.2.2.1]
                have o33 := ht3.2.2.1
                refine ⟨fun _ => ⟨fun c3 => ?_, fun c3 => ?_⟩, fun q => absurd h83 q⟩
                · rw [if_pos (Or.inr ((mK_e o33).1.mp ((mK_n (j := 2) o33 (by omega)).mp c3)))] at nx
                  exact nx
                · rw [if_neg (fun q => q.elim (fun q => by omega) (fun q => c3 (by rw [q]; rfl)))] at nx
                  exact nx
            · rw [if_pos (by simpa using c)] at heq
              refine wm_must_bad (k := 3) h81 hT1.2.1 (by omega) (by omega) (fun w2 hF2 he => ⟨fun _ => ?_, fun q => absurd rfl q⟩)
              exact fE _ bits w2 heq.symm (by omega) he ((hF.tr hF1).tr hF2)
        · rw [if_neg q]
          rw [if_neg q] at heq
          exact hJ _ _ _ _ ⟨fun _ => fO bits t w' heq.symm (by omega) hSt hF, fun c => absurd rfl c⟩
    exact key (most + 2) 0 (by omega) (Nat.zero_le _) 0 t0 w hR (Nat.two_pow_pos _) hS (FrO.rf w)
def wdE (buf : Nat → Int32) (i : Nat) (x : Except Nat Tk) : Bool := match x with
  | .error _ => false
  | .ok t => isW buf i t
theorem wm_isWordX {w : Wd} {buf : Nat → Int32} {lim i : Nat} {x : Except Nat Tk} {Post : Int32 → Wd → Prop} (hlim : lim ≤ 400) (hS : MS w buf lim x) (hl : strLen.getD i 0 ≤ 30) (h : Post (bI (wdE buf i x)) w) : wp_X9_isWord i w Post := by
  unfold wp_X9_isWord wp_J0_length_8abf5 wp_J0_charAt_5068e
  intro J hJ
  have stop : ∀ j, j ≤ strLen.getD i 0 → Post 0 w → J 0 (nI j) w := by
    intro j hj hp
    refine hJ _ _ _ ⟨fun _ => ⟨Or.inl rfl, hp⟩, fun _ => ⟨fun _ => ⟨Or.inl rfl, hp⟩, fun q => absurd rfl q⟩⟩
  cases x with
  | error e =>
    have he := hS.1 e rfl
    exact ⟨fun c => absurd c he.ne, fun _ => stop 0 (Nat.zero_le _) h⟩
  | ok t =>
    obtain ⟨⟨h1, h2, h3, h4, h5, h6⟩, ⟨o1, o2, o3, o4, o5⟩, h8⟩ := hS.2 t rfl
    have h : Post (bI (isW buf i t)) w := h
    have no : ¬ isW buf i t = true → Post 0 w := fun q => by
      rw [show isW buf i t = false by simpa using q] at h
      exact h
    rw [h4, h3, h2, pk_sub o1]
    refine ⟨fun _ => ⟨fun c => ⟨fun c2 => ?_, fun c2 => ?_⟩, fun c => ?_⟩, fun c => absurd h8 c⟩
    · have c' : t.kd = 2 := (mK_e o3).2.1.mp ((mK_n (j := 1) o3 (by omega)).mp c)
      have c2' := nI_inj (by omega) (by omega) c2
      have key : ∀ k j, j + k = strLen.getD i 0 → (∀ u, u < j → buf (t.st + u) = (strBy.getD i []).getD u 0 &&& 255) → J 1 (nI j) w := by
        intro k
        induction k with
        | zero =>
          intro j hj hall
          have hw : isW buf i t = true := isW_sp.mpr ⟨c', c2', fun u hu => hall u (by omega)⟩
          rw [hw] at h
          refine hJ _ _ _ ⟨fun _ => ⟨Or.inr rfl, h⟩, fun c => ?_⟩
          simp (disch := omega) only [nI_leI] at c
          omega
        | succ k ih =>
          intro j hj hall
          refine hJ _ _ _ ⟨fun c => ?_, fun _ => ⟨fun c => absurd c (by decide), fun _ => ?_⟩⟩
          · simp (disch := omega) only [nI_leI] at c
            omega
          · rw [h2, nI_add, nI_clamp (by omega), nI_clamp (by omega), h6 _ (by omega)]
            refine ⟨pk_in (t.st + j) 400 (by omega), pk_in j _ (by omega), fun c y e => ?_, fun c y e => ?_⟩
            · subst e
              rw [nI_1]
              refine ih (j + 1) (by omega) (fun u hu => ?_)
              by_cases e : u = j
              · rw [e]; exact c
              · exact hall u (by omega)
            · subst e
              rw [nI_1]
              exact stop (j + 1) (by omega) (no (fun q => c ((isW_sp.mp q).2.2 j (by omega))))
      exact key _ 0 (Nat.zero_add _) (fun u hu => absurd hu (Nat.not_lt_zero u))
    · exact stop 0 (Nat.zero_le _) (no (fun q => c2 (by rw [(isW_sp.mp q).2.1])))
    · exact stop 0 (Nat.zero_le _) (no (fun q => c (by rw [(isW_sp.mp q).1]; rfl)))

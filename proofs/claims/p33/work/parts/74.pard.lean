/-! the class reads a text: the other statements, the game -/
theorem CDr.ht {w : Wd} {D : Dr} (h : CDr w D) : CDr (sI w 1 9 1) (D.g, D.tk, D.fi, true, D.hf) := by
  obtain ⟨h1, h2, h3, h4, h5, h6, h7⟩ := h
  exact ⟨by rw [gI_sI, if_neg (by omega)]; exact h1, by rw [gI_sI, if_neg (by omega)]; exact h2, h3, h4, h5, by rw [gI_sI, if_pos ⟨rfl, rfl⟩]; rfl, by rw [gI_sI, if_neg (by omega)]; exact h7⟩
theorem CDr.hf {w : Wd} {D : Dr} (h : CDr w D) : CDr (sI w 1 10 1) (D.g, D.tk, D.fi, D.ht, true) := by
  obtain ⟨h1, h2, h3, h4, h5, h6, h7⟩ := h
  exact ⟨by rw [gI_sI, if_neg (by omega)]; exact h1, by rw [gI_sI, if_neg (by omega)]; exact h2, h3, h4, h5, by rw [gI_sI, if_neg (by omega)]; exact h6, by rw [gI_sI, if_pos ⟨rfl, rfl⟩]; rfl⟩
theorem CDr.fu {w : Wd} {D : Dr} {v : Nat} (h : CDr w D) : CDr (sI w 27 7 (nI v)) (D.g, D.tk, v, D.ht, D.hf) := by
  obtain ⟨h1, h2, h3, h4, h5, h6, h7⟩ := h
  exact ⟨by rw [gI_sI, if_neg (by omega)]; exact h1, by rw [gI_sI, if_pos ⟨rfl, rfl⟩]; rfl, h3, h4, h5, by rw [gI_sI, if_neg (by omega)]; exact h6, by rw [gI_sI, if_neg (by omega)]; exact h7⟩
theorem CDr.tu {w : Wd} {D : Dr} {k v : Nat} (h : CDr w D) : CDr (sA w 33 k (nI v)) (D.g, fun i => if i = k then v else D.tk i, D.fi, D.ht, D.hf) := by
  obtain ⟨h1, h2, h3, h4, h5, h6, h7⟩ := h
  have hne : ∀ o i, o ≠ 33 → gA (sA w 33 k (nI v)) o i = gA w o i := fun o i q => by rw [gA_sA, if_neg (fun c => q c.1)]
  refine ⟨h1, h2, fun l hl => ?_, fun l hl hn => (hne 32 l (by omega)).trans (h4 l hl hn), fun j hj => ?_, h6, h7⟩
  · obtain ⟨a1, a2, a3, a4, a5⟩ := h3 l hl
    exact ⟨(hne 28 l (by omega)).trans a1, (hne 29 l (by omega)).trans a2, (hne 30 l (by omega)).trans a3, (hne 31 l (by omega)).trans a4, (hne 32 l (by omega)).trans a5⟩
  · rw [gA_sA]
    show _ = nI (if j = k then v else D.tk j)
    by_cases q : j = k
    · rw [if_pos ⟨rfl, q⟩, if_pos q]
    · rw [if_neg (fun c => q c.2), if_neg q]
      exact h5 j hj
theorem CDr.lu {w : Wd} {D : Dr} {l v : Nat} (h : CDr w D) (hl : l < D.g.n) : CDr (sA w 32 l (nI v)) (D.g.slk l v, D.2) := by
  obtain ⟨h1, h2, h3, h4, h5, h6, h7⟩ := h
  have hne : ∀ o i, o ≠ 32 → gA (sA w 32 l (nI v)) o i = gA w o i := fun o i q => by rw [gA_sA, if_neg (fun c => q c.1)]
  refine ⟨h1, h2, fun k hk => ?_, fun k hk hn => ?_, fun j hj => (hne 33 j (by omega)).trans (h5 j hj), h6, h7⟩
  · obtain ⟨a1, a2, a3, a4, a5⟩ := h3 k hk
    refine ⟨(hne 28 k (by omega)).trans a1, (hne 29 k (by omega)).trans a2, (hne 30 k (by omega)).trans a3, (hne 31 k (by omega)).trans a4, ?_⟩
    rw [gA_sA]
    show _ = nI (if k = l then v else D.g.lk k)
    by_cases q : k = l
    · rw [if_pos ⟨rfl, q⟩, if_pos q]
    · rw [if_neg (fun c => q c.2), if_neg q]
      exact a5
  · have hn : D.g.n ≤ k := hn
    rw [gA_sA, if_neg (by omega)]
    exact h4 k hk hn
set_option maxHeartbeats 4000000 in
theorem wh_readLock {w : Wd} {buf : Nat → Int32} {lim : Nat} {t : Tk} {D : Dr} {Post : Int32 → Wd → Prop} (hlim : lim ≤ 400) (hT : CTk w buf lim t) (ht : TkO lim t) (hD : CDr w D) (hDk : DOK D) (h80 : gI w 1 8 = 0) (h : CEnd w buf lim (lokE buf lim t D) Post) : wp_X1_readLock w Post := by
  have hn := hDk.1.1
  unfold lokE at h
  unfold wp_X1_readLock
  refine wh_next hlim hT ht (fun w1 hN1 hT1 => ?_)
  obtain ⟨g1, g2⟩ := TkO_n (buf := buf) ht.2.1
  have h81 := (hN1.1 1 8 (by omega)).trans h80
  have hD1 := hD.eq hN1.D
  have e : (nI D.g.n - 1).toInt = (D.g.n : Int) - 1 := pk_sub_toInt (a := D.g.n) (b := 1) (by omega) (by omega)
  refine wh_isNumber (b := decide ((tokN buf lim t.en).nm < D.g.n)) hT1 g1 (fun _ => ?_) (fun e he hke => ⟨fun _ => ?_, fun q => absurd rfl q⟩) (fun ho hk3 => ⟨fun q => absurd q (by decide), fun _ y1 e1 => ?_⟩)
  · have hnm := g1.2.2.2.2
    rw [show gI w1 (27 + 7 * 0) 6 = nI D.g.n from hD1.1, decide_eq_true_eq, fa_le, e, nI_toInt (by omega)]
    refine ⟨fun q => ⟨nI_pos (by omega), by omega⟩, fun q => by omega⟩
  · rw [he] at h
    exact h.1 e _ rfl (fIs_of hlim g1 hke) (by rw [gI_sI, if_pos ⟨rfl, rfl⟩]) (hN1.R.tr (FrR.s1 _ 8 _ (by omega)))
  · rw [ho] at h
    simp only at h
    obtain ⟨v1, v2, _⟩ := numB_ok ho
    rw [decide_eq_true_eq] at v2
    rw [hT1.2.2.2.2.1 hk3] at e1
    subst e1
    generalize hL : (tokN buf lim t.en).nm = l at h v2
    refine wh_next hlim hT1 g1 (fun w2 hN2 hT2 => ?_)
    obtain ⟨g3, g4⟩ := TkO_n (buf := buf) g1.2.1
    have h82 := (hN2.1 1 8 (by omega)).trans h81
    have hD2 := hD1.eq hN2.D
    have hl6 : l < 6 := by omega
    obtain ⟨a1, a2, a3, a4, a5⟩ := hD2.2.2.1 l v2
    obtain ⟨b1, b2, b3, b4, b5, b6, b7, b8, b9, b10⟩ := hDk.1.2 l v2
    refine wh_hasLadder (k := 0) hD2.1 hn (fun c => absurd c (ladN hn v2)) (fun _ => ⟨fun c => absurd c (by decide), fun _ => ⟨pk_in l 6 hl6, ?_⟩⟩)
    rw [nI_clamp (show l < 2 ^ 31 by omega), show gA w2 (27 + 7 * 0 + 1) l = nI (D.g.top l) from a1]
    refine wh_isNumber (p1 := 1) (b := decide (1 ≤ (tokN buf lim (tokN buf lim t.en).en).nm ∧ (tokN buf lim (tokN buf lim t.en).en).nm ≤ D.g.top l)) hT2 g3 (fun _ => num_dec (lo := 1) g3.2.2.2.2 (by omega) (by omega)) (fun e he hke => ⟨fun _ => ?_, fun q => absurd rfl q⟩) (fun ho hk3 => ⟨fun q => absurd q (by decide), fun _ => ⟨pk_in l 6 hl6, ?_⟩⟩)
    · have he' : numE (tokN buf lim (tokN buf lim t.en).en) 1 (D.g.top l) = .error e := he
      rw [he'] at h
      exact h.1 e _ rfl (fIs_of hlim g3 hke) (by rw [gI_sI, if_pos ⟨rfl, rfl⟩]) ((hN1.R.tr hN2.R).tr (FrR.s1 _ 8 _ (by omega)))
    · have ho' : numE (tokN buf lim (tokN buf lim t.en).en) 1 (D.g.top l) = .ok (tokN buf lim (tokN buf lim t.en).en).nm := ho
      rw [ho'] at h
      simp only at h
      obtain ⟨u1, u2, u3, _⟩ := numE_ok ho'
      rw [show gA w2 (27 + 7 * 0 + 5) l = nI (D.g.lk l) from a5, hT2.2.2.2.2.1 hk3]
      generalize hH : (tokN buf lim (tokN buf lim t.en).en).nm = hh at h u2 u3
      refine wh_hasBit (by omega) (by omega) ?_
      rw [bI_0]
      refine ⟨fun c => ⟨pk_in l 6 hl6, fun y2 e2 => ⟨pk_in l 6 hl6, ?_⟩⟩, fun c => ?_⟩
      · rw [if_neg (by rw [c]; decide)] at h
        rw [show gA w2 (27 + 7 * 0 + 5) l = nI (D.g.lk l) from a5, hT2.2.2.2.2.1 hk3, hH, nI_shl1 (by omega), fa_or] at e2
        subst e2
        have hT3 : CTk (sA w2 32 l (nI (D.g.lk l ||| 2 ^ hh))) buf lim (tokN buf lim (tokN buf lim t.en).en) := hT2.of (fun _ _ _ => rfl) (fun i => by rw [gA_sA, if_neg (by omega)])
        refine wh_next hlim hT3 g3 (fun w3 hN3 hT4 => ?_)
        exact h.2 _ _ w3 rfl hT4 (TkO_n g3.2.1).1 ((hN3.1 1 8 (by omega)).trans h82) (((hN1.R.tr hN2.R).tr (FrR.a _ 32 _ _ (by omega))).tr hN3.R) ((hD2.lu v2).eq hN3.D)
      · rw [if_pos (by simpa using c)] at h
        refine wh_fail (k := 3) hT2.2.2.2.1 ⟨Or.inl rfl, ?_⟩
        exact h.1 _ _ rfl (fIs_of hlim g3 ⟨3, by omega, by omega, rfl⟩) (by rw [gI_sI, if_pos ⟨rfl, rfl⟩]) ((hN1.R.tr hN2.R).tr (FrR.s1 _ 8 _ (by omega)))
theorem wh_readTokens {w : Wd} {buf : Nat → Int32} {lim : Nat} {t : Tk} {D : Dr} {Post : Int32 → Wd → Prop} (hlim : lim ≤ 400) (hT : CTk w buf lim t) (ht : TkO lim t) (hD : CDr w D) (h80 : gI w 1 8 = 0) (h : CEnd w buf lim (tokE buf lim t D) Post) : wp_X1_readTokens w Post := by
  unfold tokE at h
  unfold wp_X1_readTokens
  intro J hJ
  rw [hD.2.2.2.2.2.1, bI_0]
  refine ⟨fun c => ?_, fun c => ?_⟩
  · rw [if_neg (by rw [c]; decide)] at h
    have hT0 : CTk (sI w 1 9 1) buf lim t := hT.of (fun k _ _ => by rw [gI_sI, if_neg (by omega)]) (fun _ => rfl)
    refine wh_next hlim hT0 ht (fun w1 hN1 hT1 => ?_)
    obtain ⟨g1, g2⟩ := TkO_n (buf := buf) ht.2.1
    have h81 : gI w1 1 8 = 0 := (hN1.1 1 8 (by omega)).trans (by rw [gI_sI, if_neg (by omega)]; exact h80)
    have hF1 : FrR w w1 := (FrR.s1 w 9 1 (by omega)).tr hN1.R
    have hD1 := hD.ht.eq hN1.D
    have key : ∀ m k, k + m = 3 → ∀ t' f w', tkF buf lim m k t' f = tkF buf lim 3 0 (tokN buf lim t.en) D.tk → CTk w' buf lim t' → TkO lim t' → gI w' 1 8 = 0 → FrR w w' → CDr w' (D.g, f, D.fi, true, D.hf) → J (nI k) w' := by
      intro m
      induction m with
      | zero =>
        intro k hk t' f w' heq hT' ht' h8 hF hD'
        obtain rfl : k = 3 := by omega
        rw [← heq] at h
        unfold tkF at h
        exact hJ _ _ ⟨fun _ => h.2 t' _ w' rfl hT' ht' h8 hF hD', fun c => absurd (by decide) c⟩
      | succ m ih =>
        intro k hk t' f w' heq hT' ht' h8 hF hD'
        have heq2 := heq
        unfold tkF at heq2
        refine hJ _ _ ⟨fun c => ?_, fun _ => ?_⟩
        · simp (disch := omega) only [fa_lit, nI_leI] at c
          omega
        refine wh_isNumber (p1 := 0) (p2 := 9) (b := decide (0 ≤ t'.nm ∧ t'.nm ≤ 9)) hT' ht' (fun _ => num_dec (lo := 0) (hi := 9) ht'.2.2.2.2 (by omega) (by omega)) (fun e he hke => ⟨fun _ => ?_, fun q => absurd rfl q⟩) (fun ho hk3 => ⟨fun q => absurd q (by decide), fun _ y1 e1 => ⟨pk_in k 3 (by omega), ?_⟩⟩)
        · have he' : numE t' 0 9 = .error e := he
          have : tkF buf lim 3 0 (tokN buf lim t.en) D.tk = .error e := by
            rw [← heq]
            unfold tkF
            rw [he']
          rw [this] at h
          exact h.1 e _ rfl (fIs_of hlim ht' hke) (by rw [gI_sI, if_pos ⟨rfl, rfl⟩]) (hF.tr (FrR.s1 _ 8 _ (by omega)))
        · have ho' : numE t' 0 9 = .ok t'.nm := ho
          have hnx : tkF buf lim m (k + 1) (tokN buf lim t'.en) (fun i => if i = k then t'.nm else f i) = tkF buf lim 3 0 (tokN buf lim t.en) D.tk := by
            rw [← heq]
            conv => rhs; unfold tkF
            rw [ho']
          rw [hT'.2.2.2.2.1 hk3] at e1
          subst e1
          rw [nI_clamp (by omega)]
          have hT2 : CTk (sA w' 33 k (nI t'.nm)) buf lim t' := hT'.of (fun _ _ _ => rfl) (fun i => by rw [gA_sA, if_neg (by omega)])
          refine wh_next hlim hT2 ht' (fun w4 hN4 hT4 y2 e2 => ?_)
          subst e2
          rw [nI_1]
          exact ih (k + 1) (by omega) _ _ w4 hnx hT4 (TkO_n ht'.2.1).1 ((hN4.1 1 8 (by omega)).trans h8) ((hF.tr (FrR.a _ 33 _ _ (by omega))).tr hN4.R) (hD'.tu.eq hN4.D)
    exact key 3 0 (by omega) _ _ w1 rfl hT1 g1 h81 hF1 hD1
  · rw [if_pos (by simpa using c)] at h
    refine wh_fail (k := 3) hT.2.2.2.1 ⟨Or.inl rfl, ?_⟩
    exact h.1 _ _ rfl (fIs_of hlim ht ⟨3, by omega, by omega, rfl⟩) (by rw [gI_sI, if_pos ⟨rfl, rfl⟩]) (FrR.s1 _ 8 _ (by omega))
theorem wh_readFirst {w : Wd} {buf : Nat → Int32} {lim : Nat} {t : Tk} {D : Dr} {Post : Int32 → Wd → Prop} (hlim : lim ≤ 400) (hT : CTk w buf lim t) (ht : TkO lim t) (hD : CDr w D) (h80 : gI w 1 8 = 0) (h : CEnd w buf lim (firE buf lim t D) Post) : wp_X1_readFirst w Post := by
  unfold firE at h
  unfold wp_X1_readFirst
  rw [hD.2.2.2.2.2.2, bI_0]
  refine ⟨fun c => ?_, fun c => ?_⟩
  · rw [if_neg (by rw [c]; decide)] at h
    have hT0 : CTk (sI w 1 10 1) buf lim t := hT.of (fun k _ _ => by rw [gI_sI, if_neg (by omega)]) (fun _ => rfl)
    refine wh_next hlim hT0 ht (fun w1 hN1 hT1 => ?_)
    obtain ⟨g1, g2⟩ := TkO_n (buf := buf) ht.2.1
    have h81 : gI w1 1 8 = 0 := (hN1.1 1 8 (by omega)).trans (by rw [gI_sI, if_neg (by omega)]; exact h80)
    have hF1 : FrR w w1 := (FrR.s1 w 10 1 (by omega)).tr hN1.R
    have hD1 := hD.hf.eq hN1.D
    refine wh_isNumber (p1 := 0) (p2 := 1) (b := decide (0 ≤ (tokN buf lim t.en).nm ∧ (tokN buf lim t.en).nm ≤ 1)) hT1 g1 (fun _ => num_dec (lo := 0) (hi := 1) g1.2.2.2.2 (by omega) (by omega)) (fun e he hke => ⟨fun _ => ?_, fun q => absurd rfl q⟩) (fun ho hk3 => ⟨fun q => absurd q (by decide), fun _ y1 e1 => ?_⟩)
    · have he' : numE (tokN buf lim t.en) 0 1 = .error e := he
      rw [he'] at h
      exact h.1 e _ rfl (fIs_of hlim g1 hke) (by rw [gI_sI, if_pos ⟨rfl, rfl⟩]) (hF1.tr (FrR.s1 _ 8 _ (by omega)))
    · have ho' : numE (tokN buf lim t.en) 0 1 = .ok (tokN buf lim t.en).nm := ho
      rw [ho'] at h
      simp only at h
      rw [hT1.2.2.2.2.1 hk3] at e1
      subst e1
      have hT2 : CTk (sI w1 27 7 (nI (tokN buf lim t.en).nm)) buf lim (tokN buf lim t.en) := hT1.of (fun k _ _ => by rw [gI_sI, if_neg (by omega)]) (fun _ => rfl)
      refine wh_next hlim hT2 g1 (fun w2 hN2 hT3 => ?_)
      exact h.2 _ _ w2 rfl hT3 (TkO_n g1.2.1).1 ((hN2.1 1 8 (by omega)).trans (by rw [gI_sI, if_neg (by omega)]; exact h81)) ((hF1.tr (FrR.s27 _ 7 _)).tr hN2.R) (hD1.fu.eq hN2.D)
  · rw [if_pos (by simpa using c)] at h
    refine wh_fail (k := 3) hT.2.2.2.1 ⟨Or.inl rfl, ?_⟩
    exact h.1 _ _ rfl (fIs_of hlim ht ⟨3, by omega, by omega, rfl⟩) (by rw [gI_sI, if_pos ⟨rfl, rfl⟩]) (FrR.s1 _ 8 _ (by omega))
/-- how a statement ends -/
def SEnd (w : Wd) (buf : Nat → Int32) (lim : Nat) (x : Except Nat (Tk × Dr)) (Post : Wd → Prop) : Prop := (∀ e w', x = .error e → fIs e → gI w' 1 8 = nI e → FrR w w' → Post w') ∧ ∀ t' D' w', x = .ok (t', D') → CTk w' buf lim t' → TkO lim t' → gI w' 1 8 = 0 → FrR w w' → CDr w' D' → Post w'
theorem wh_semi {w : Wd} {buf : Nat → Int32} {lim : Nat} {x : Except Nat (Tk × Dr)} {Post : Wd → Prop} (hlim : lim ≤ 400) (h : SEnd w buf lim (semE buf lim x) Post) : CEnd w buf lim x (fun r w' => (r = 0 → Post w') ∧ (¬ r = 0 → wp_X1_readSemicolon w' (fun w2 => Post w2))) := by
  refine ⟨fun e w' hx hfe h8 hF => ⟨fun _ => h.1 e w' (by rw [hx]; rfl) hfe h8 hF, fun q => absurd rfl q⟩, fun t' D' w' hx hT ht h8 hF hD => ⟨fun q => absurd q (by decide), fun _ => ?_⟩⟩
  unfold wp_X1_readSemicolon
  rw [hx] at h
  unfold semE at h
  simp only at h
  rw [hT.2.2.1]
  have hk := ht.2.2.1
  refine ⟨fun c => ?_, fun c => ?_⟩
  · have c' : t'.kd = 4 := nI_inj (b := 4) (by omega) (by omega) c
    rw [if_pos c'] at h
    refine wh_next hlim hT ht (fun w2 hN hT2 => ?_)
    exact h.2 _ _ w2 rfl hT2 (TkO_n ht.2.1).1 ((hN.1 1 8 (by omega)).trans h8) (hF.tr hN.R) (hD.eq hN.D)
  · have c' : ¬ t'.kd = 4 := fun q => c (by rw [q]; rfl)
    rw [if_neg c'] at h
    refine wh_fail (k := 1) hT.2.2.2.1 ?_
    exact h.1 _ _ rfl (fIs_of hlim ht ⟨1, by omega, by omega, rfl⟩) (by rw [gI_sI, if_pos ⟨rfl, rfl⟩]) (hF.tr (FrR.s1 _ 8 _ (by omega)))
theorem wh_readStatement {w : Wd} {buf : Nat → Int32} {lim : Nat} {t : Tk} {D : Dr} {Post : Wd → Prop} (hlim : lim ≤ 400) (hT : CTk w buf lim t) (ht : TkO lim t) (hD : CDr w D) (hDk : DOK D) (h80 : gI w 1 8 = 0) (h : SEnd w buf lim (staE buf lim t D) Post) : wp_X1_readStatement w Post := by
  unfold wp_X1_readStatement
  unfold staE at h
  refine wh_isWord hlim hT ht (by decide) ?_
  rw [bI_0]
  refine ⟨fun c1 => wh_isWord hlim hT ht (by decide) ?_, fun c1 => ?_⟩
  · rw [if_neg (by rw [c1]; decide)] at h
    rw [bI_0]
    refine ⟨fun c2 => wh_isWord hlim hT ht (by decide) ?_, fun c2 => ?_⟩
    · rw [if_neg (by rw [c2]; decide)] at h
      rw [bI_0]
      refine ⟨fun c3 => wh_isWord hlim hT ht (by decide) ?_, fun c3 => ?_⟩
      · rw [if_neg (by rw [c3]; decide)] at h
        rw [bI_0]
        refine ⟨fun c4 => ?_, fun c4 => ?_⟩
        · rw [if_neg (by rw [c4]; decide)] at h
          refine wh_fail (k := 1) hT.2.2.2.1 ⟨fun _ => ?_, fun q => absurd rfl q⟩
          exact h.1 _ _ rfl (fIs_of hlim ht ⟨1, by omega, by omega, rfl⟩) (by rw [gI_sI, if_pos ⟨rfl, rfl⟩]) (FrR.s1 _ 8 _ (by omega))
        · rw [if_pos (by simpa using c4)] at h
          exact wh_readFirst hlim hT ht hD h80 (wh_semi hlim h)
      · rw [if_pos (by simpa using c3)] at h
        exact wh_readTokens hlim hT ht hD h80 (wh_semi hlim h)
    · rw [if_pos (by simpa using c2)] at h
      exact wh_readLock hlim hT ht hD hDk h80 (wh_semi hlim h)
  · rw [if_pos (by simpa using c1)] at h
    exact wh_readLadder hlim hT ht hD hDk h80 (wh_semi hlim h)
/-- all but the text and the draft -/
def FrY (w w' : Wd) : Prop := (∀ o k, o ≠ 1 → o ≠ 27 → gI w' o k = gI w o k) ∧ (∀ o i, ¬ (28 ≤ o ∧ o ≤ 33) → gA w' o i = gA w o i) ∧ w'.2.2 = w.2.2
theorem FrY.tr {a b c : Wd} (h : FrY a b) (g : FrY b c) : FrY a c := ⟨fun o s q r => (g.1 o s q r).trans (h.1 o s q r), fun o i q => (g.2.1 o i q).trans (h.2.1 o i q), g.2.2.trans h.2.2⟩
theorem FrR.Y {w w' : Wd} (h : FrR w w') : FrY w w' := ⟨fun o k q r => h.1 o k (fun c => q c.1) r, h.2.1, h.2.2⟩
theorem FrY.s1 (w : Wd) (k : Nat) (x : Int32) : FrY w (sI w 1 k x) := ⟨fun o j q _ => by rw [gI_sI, if_neg (fun c => q c.1)], fun _ _ _ => rfl, rfl⟩
set_option maxHeartbeats 4000000 in
theorem wh_readGame {w : Wd} {buf : Nat → Int32} {lim : Nat} {Post : Int32 → Wd → Prop} (hlim : lim ≤ 400) (hb : ∀ i, i < lim → gA w 2 i = buf i) (hE : ∀ e w', gamE buf lim = .error e → fIs e → FrY w w' → gI w' 1 1 = 0 → Post (nI e) w') (hO : ∀ D w', gamE buf lim = .ok D → FrY w w' → gI w' 1 1 = 0 → CDr w' D → Post 0 w') : wp_X1_readGame w (nI lim) Post := by
  unfold wp_X1_readGame
  intro J hJ y1 e1
  rw [if_neg (by simp (disch := omega) only [fa_lit, nI_ltI]; omega)] at e1
  subst e1
  unfold wp_X6_clear
  refine wh_fill (by omega) (fun f1 hf1 => ?_)
  refine wh_fill (by omega) (fun f2 hf2 => ?_)
  generalize hW : sI (sI (sF (sF (sI (sI (sI (sI (sI w 1 3 (nI lim)) 1 4 0) 1 8 0) 1 9 0) 1 10 0) (27 + 7 * 0 + 5) f1) (27 + 7 * 0 + 6) f2) (27 + 7 * 0) 6 0) (27 + 7 * 0) 7 0 = W
  have wY : FrY w W := by
    rw [← hW]
    refine ⟨fun o k q r => ?_, fun o i q => ?_, rfl⟩
    · rw [gI_sI, if_neg (by omega), gI_sI, if_neg (by omega)]
      show gI (sI (sI (sI (sI (sI w 1 3 (nI lim)) 1 4 0) 1 8 0) 1 9 0) 1 10 0) o k = _
      rw [gI_sI, if_neg (by omega), gI_sI, if_neg (by omega), gI_sI, if_neg (by omega), gI_sI, if_neg (by omega), gI_sI, if_neg (by omega)]
    · rw [gA_sI, gA_sI, gA_sF, if_neg (by omega), gA_sF, if_neg (by omega)]
      rfl
  have w1k : ∀ k, gI W 1 k = if k = 10 then 0 else if k = 9 then 0 else if k = 8 then 0 else if k = 4 then 0 else if k = 3 then nI lim else gI w 1 k := fun k => by
    rw [← hW, gI_sI, if_neg (by omega), gI_sI, if_neg (by omega)]
    show gI (sI (sI (sI (sI (sI w 1 3 (nI lim)) 1 4 0) 1 8 0) 1 9 0) 1 10 0) 1 k = _
    simp only [gI_sI, true_and]
  have wD : CDr W D0 := by
    refine ⟨?_, ?_, fun l hl => absurd hl (Nat.not_lt_zero l), fun l hl _ => ?_, fun k hk => ?_, ?_, ?_⟩
    · rw [← hW, gI_sI, if_neg (by omega), gI_sI, if_pos ⟨rfl, rfl⟩]; rfl
    · rw [← hW, gI_sI, if_pos ⟨rfl, rfl⟩]; rfl
    · rw [← hW, gA_sI, gA_sI, gA_sF, if_neg (by omega), gA_sF, if_pos rfl]
      exact hf1 l hl
    · rw [← hW, gA_sI, gA_sI, gA_sF, if_pos rfl]
      exact hf2 k hk
    · rw [w1k, if_neg (by omega), if_pos rfl]; rfl
    · rw [w1k, if_pos rfl]; rfl
  clear hW
  have hb2 : ∀ i, i < lim → gA W 2 i = buf i := fun i hi => (wY.2.1 2 i (by omega)).trans (hb i hi)
  refine wh_nextToken (a := 0) hlim ((w1k 3).trans rfl) ((w1k 4).trans rfl) (Nat.zero_le _) hb2 (fun w2 hN2 hT2 => ?_)
  have fin : ∀ w', FrY w w' → FrY w (sI w' 1 1 0) := fun w' h => h.tr (FrY.s1 _ _ _)
  have key : ∀ k n, n + k = 402 → ∀ t D w', gamF buf lim k t D = gamE buf lim → n ≤ t.st → CTk w' buf lim t → TkO lim t → gI w' 1 8 = 0 → FrY w w' → CDr w' D → DOK D → J (nI n) w' := by
    intro k
    induction k with
    | zero =>
      intro n hn t D w' heq hst hT ht
      have := ht.1
      have := ht.2.1
      omega
    | succ k ih =>
      intro n hn t D w' heq hst hT ht h8 hF hD hDk
      have o1 := ht.1
      have o2 := ht.2.1
      have o3 := ht.2.2.1
      unfold gamF at heq
      refine hJ _ _ ⟨fun c => ?_, fun _ => ?_⟩
      · simp (disch := omega) only [fa_lit, nI_ltI] at c
        omega
      · rw [hT.2.2.1, h8]
        refine ⟨fun c => ?_, fun c => ⟨fun _ => ?_, fun q => absurd rfl q⟩⟩
        · have c' : t.kd = 0 := nI_inj (b := 0) (by omega) (by omega) c
          rw [if_pos c'] at heq
          rw [show gI (sI w' 1 1 0) 1 8 = 0 by rw [gI_sI, if_neg (by omega)]; exact h8]
          exact hO D _ heq.symm (fin w' hF) (by rw [gI_sI, if_pos ⟨rfl, rfl⟩]) (hD.eq ⟨fun k => by rw [gI_sI, if_neg (by omega)], fun _ _ _ _ => rfl, by rw [gI_sI, if_neg (by omega)], by rw [gI_sI, if_neg (by omega)]⟩)
        · have c' : ¬ t.kd = 0 := fun q => c (by rw [q]; rfl)
          rw [if_neg c'] at heq
          refine wh_readStatement hlim hT ht hD hDk h8 ⟨fun e w3 hx hfe h83 hF3 y2 e2 => ?_, fun t' D' w3 hx hT3 ht3 h83 hF3 hD3 y2 e2 => ?_⟩
          · subst e2
            rw [nI_1]
            rw [hx] at heq
            have hne : ¬ nI e = 0 := nI_ne0 hfe.1 (by have := hfe.2; omega)
            have hfin := hE e _ heq.symm hfe (fin w3 (hF.tr hF3.Y)) (by rw [gI_sI, if_pos ⟨rfl, rfl⟩])
            have e8 : gI (sI w3 1 1 0) 1 8 = nI e := by rw [gI_sI, if_neg (by omega)]; exact h83
            refine hJ _ _ ⟨fun _ => by rw [e8]; exact hfin, fun _ => ⟨fun _ => by rw [e8]; exact hfin, fun _ => ⟨fun q => absurd (h83.symm.trans q) hne, fun _ => by rw [e8]; exact hfin⟩⟩⟩
          · subst e2
            rw [nI_1]
            rw [hx] at heq
            obtain ⟨r1, r2, r3⟩ := staE_ok hx ht hDk
            have := ht.2.2.2.1 c'
            exact ih (n + 1) (by omega) t' D' w3 heq (by omega) hT3 ht3 h83 (hF.tr hF3.Y) hD3 r3
  exact key 402 0 (by omega) _ _ w2 rfl (Nat.zero_le _) hT2 (TkO_n (Nat.zero_le _)).1 ((hN2.1 1 8 (by omega)).trans ((w1k 8).trans rfl)) (wY.tr hN2.R.Y) (wD.eq hN2.D) D0_ok

/-! the model's calls that change nothing -/
def ML (b : Int32 → Wd → Prop) (a : An) : Prop := ∀ w2 r, TI w2 a.2.2 → gI w2 15 0 = a.1 → (a.1 = 0 → r = a.2.1) → b r w2
def MN (b : Int32 → Wd → Prop) (a : An) : Prop := ∀ w2, TI w2 a.2.2 → b a.2.1 w2
theorem th_g (w : Wd) (x : Int32) : gI (sI w 15 0 x) 15 0 = x := by rw [gI_sI, if_pos ⟨rfl, rfl⟩]
theorem TI.th {w : Wd} {b : Nat} {S : Sy} (h : TI w S) (hS : S.ok b) (x : Int32) : TI (sI w 15 0 x) S := h.frT hS (FrT.th w x)
theorem ML.bad {b : Int32 → Wd → Prop} {k v : Int32} {S : Sy} {w : Wd} {n : Nat} (h : ML b (k, v, S)) (hS : S.ok n) (hI : TI w S) (hk : ¬ k = 0) : b 0 (sI w 15 0 k) := h _ 0 (hI.th hS k) (th_g w k) (fun q => absurd q hk)
theorem ML.ok {b : Int32 → Wd → Prop} {v : Int32} {S : Sy} {w : Wd} (h : ML b (0, v, S)) (hI : TI w S) (e : gI w 15 0 = 0) : b v w := h w v hI e (fun _ => rfl)
theorem br_eq {w : Wd} {k : Int32} {A B : Prop} (hk : ¬ k = 0) (h : B) : (gI (sI w 15 0 k) 15 0 = 0 → A) ∧ (¬ gI (sI w 15 0 k) 15 0 = 0 → B) := by
  rw [th_g]
  exact ⟨fun q => absurd q hk, fun _ => h⟩
theorem br_le {w : Wd} {k : Int32} {A B : Prop} (hk : ¬ k ≤ 0) (h : B) : (gI (sI w 15 0 k) 15 0 ≤ 0 → A) ∧ (¬ gI (sI w 15 0 k) 15 0 ≤ 0 → B) := by
  rw [th_g]
  exact ⟨fun q => absurd q hk, fun _ => h⟩
theorem br_eq0 {w : Wd} {A B : Prop} (h : A) : (gI (sI w 15 0 0) 15 0 = 0 → A) ∧ (¬ gI (sI w 15 0 0) 15 0 = 0 → B) := by
  rw [th_g]
  exact ⟨fun _ => h, fun q => absurd rfl q⟩
theorem br_le0 {w : Wd} {A B : Prop} (h : A) : (gI (sI w 15 0 0) 15 0 ≤ 0 → A) ∧ (¬ gI (sI w 15 0 0) 15 0 ≤ 0 → B) := by
  rw [th_g]
  exact ⟨fun _ => h, fun q => absurd (by decide : (0 : Int32) ≤ 0) q⟩
theorem FrM.t0 {w w' : Wd} (h : FrM (sI w 15 0 0) w') : gI w' 15 0 = 0 := (h.1 15 0 (by omega)).trans (th_g w 0)
theorem mm_sum {w : Wd} {b : Nat} {S : Sy} {Post : Int32 → Wd → Prop} (hS : S.ok b) (hI : TI w S) (h : MN Post (sumA S)) : wp_X9_sum w Post := by
  unfold wp_X9_sum
  have hI1 := hI.th hS 0
  exact wm_sumNow hS.hg hI1.1.lg (fun w' hF => h w' (hI1.frT hS hF.M.T))
theorem mm_stepsOn {w : Wd} {b : Nat} {S : Sy} {x : Int32} {Post : Int32 → Wd → Prop} (hS : S.ok b) (hI : TI w S) (h : ML Post (ldA S x (stoV S))) : wp_X9_stepsOn w x Post := by
  have hg := hS.hg
  unfold wp_X9_stepsOn
  unfold ldA at h
  refine wm_isLadder hg hI.1.lg (fun c => ⟨fun _ => br_eq (by decide) ?_, fun q => absurd rfl q⟩) (fun c => ⟨fun q => absurd q (by decide), fun _ => br_eq0 ?_⟩)
  · rw [if_pos c] at h
    exact h.bad hS hI (by decide)
  rw [if_neg c] at h
  obtain ⟨l, hl, rfl⟩ := ladX hg.1 c
  have hl6 : l < 6 := Nat.lt_of_lt_of_le hl hg.1
  rw [nI_clamp (by omega)] at h
  have hI1 := hI.th hS 0
  refine wm_of (k := 2) hl6 (by omega) ?_
  rw [(hI1.1.lg.2 l hl).2.2.1]
  exact wm_stepsFrom hg hI1.1.lg hl (h.ok hI1 (th_g w 0))
theorem mm_longest {w : Wd} {b : Nat} {S : Sy} {x : Int32} {Post : Int32 → Wd → Prop} (hS : S.ok b) (hI : TI w S) (h : ML Post (ldA S x (lonV S))) : wp_X9_longest w x Post := by
  have hg := hS.hg
  unfold wp_X9_longest
  unfold ldA at h
  refine wm_isLadder hg hI.1.lg (fun c => ⟨fun _ => br_le (by decide) ?_, fun q => absurd rfl q⟩) (fun c => ⟨fun q => absurd q (by decide), fun _ => br_le0 ?_⟩)
  · rw [if_pos c] at h
    exact h.bad hS hI (by decide)
  rw [if_neg c] at h
  obtain ⟨l, hl, rfl⟩ := ladX hg.1 c
  have hl6 : l < 6 := Nat.lt_of_lt_of_le hl hg.1
  obtain ⟨c1, c2, c3⟩ := S.g.coT hg hl
  have hc := S.g.co13 hg hl
  rw [nI_clamp (by omega)] at h
  have hI1 := hI.th hS 0
  refine wm_lays hg hI1.1.lg hl (fun w' hF hL => wm_of (k := 2) hl6 (by omega) ?_)
  have hI2 := hI1.frT hS hF.M.T
  rw [(hI2.1.lg.2 l hl).2.2.1, nI_clamp (by omega), (hL _ c1 c2 c3).2]
  exact ⟨pk_in (S.g.co l) 8192 hc, h.ok hI2 hF.M.t0⟩
theorem mm_positions {w : Wd} {b : Nat} {S : Sy} {x : Int32} {Post : Int32 → Wd → Prop} (hS : S.ok b) (hI : TI w S) (h : ML Post (ldA S x (posV S))) : wp_X9_positions w x Post := by
  have hg := hS.hg
  unfold wp_X9_positions
  unfold ldA at h
  refine wm_isLadder hg hI.1.lg (fun c => ⟨fun _ => br_le (by decide) ?_, fun q => absurd rfl q⟩) (fun c => ⟨fun q => absurd q (by decide), fun _ => br_le0 ?_⟩)
  · rw [if_pos c] at h
    exact h.bad hS hI (by decide)
  rw [if_neg c] at h
  obtain ⟨l, hl, rfl⟩ := ladX hg.1 c
  have hl6 : l < 6 := Nat.lt_of_lt_of_le hl hg.1
  rw [nI_clamp (by omega)] at h
  have hI1 := hI.th hS 0
  refine wm_goesDown hg hI1.1.lg hl (fun w' hF e1 e2 => ?_)
  rw [e1]
  exact h.ok (hI1.frT hS hF.T) hF.t0
theorem mm_meanValue {w : Wd} {b : Nat} {S : Sy} {x : Int32} {Post : UInt64 → Wd → Prop} (hS : S.ok b) (hI : TI w S) (h0 : (x < 0 ∨ nI S.g.n ≤ x) → ∀ w', TI w' S → gI w' 15 0 = 1 → Post FP.dconst0 w') (h1 : ∀ l w', l < S.g.n → x = nI l → TI w' S → gI w' 15 0 = 0 → Post (mnD (S.g.lk l) (S.g.sz l) (S.g.co l)) w') : wp_X9_meanValue w x Post := by
  have hg := hS.hg
  unfold wp_X9_meanValue
  refine wm_isLadder hg hI.1.lg (fun c => ⟨fun _ => br_le (by decide) ?_, fun q => absurd rfl q⟩) (fun c => ⟨fun q => absurd q (by decide), fun _ => br_le0 ?_⟩)
  · exact h0 c _ (hI.th hS 1) (th_g w 1)
  obtain ⟨l, hl, rfl⟩ := ladX hg.1 c
  have hl6 : l < 6 := Nat.lt_of_lt_of_le hl hg.1
  have hm := S.g.pos hg hl
  have hz := (hg.2 l hl).2.2.2.2.1
  have hI1 := hI.th hS 0
  refine wm_goesDown hg hI1.1.lg hl (fun w' hF e1 e2 => ?_)
  have hs := smR_le (l := S.g.lk l) hm hz
  rw [e1, e2, fp_wide (by omega)]
  exact ⟨vf_of (mnD_ok hm hz), h1 l w' hl rfl (hI1.frT hS hF.T) hF.t0⟩
theorem mm_isRight {w : Wd} {b : Nat} {S : Sy} {Post : Int32 → Wd → Prop} (hS : S.ok b) (hI : TI w S) (h : MN Post (oneA S)) : wp_X9_isRight w Post := by
  have hI1 := hI.th hS 0
  exact wm_isRight hS.hg hI.1.lg (fun w' hF => h w' (hI1.frT hS hF.T))
theorem mm_allowed {w : Wd} {b : Nat} {S : Sy} {Post : Int32 → Wd → Prop} (hS : S.ok b) (hI : TI w S) (h : MN Post (allA S)) : wp_X9_allowed w Post := by
  unfold wp_X9_allowed
  have hI1 := hI.th hS 0
  exact wm_finds hS.hg hI1.1 (fun w' hF _ => h w' (hI1.frT hS hF.T))
theorem mm_best {w : Wd} {b : Nat} {S : Sy} {Post : Int32 → Wd → Prop} (hS : S.ok b) (hI : TI w S) (h : MN Post (besA S)) : wp_X9_best w Post := by
  unfold wp_X9_best
  have hI1 := hI.th hS 0
  exact wm_bestOne hS.hg hI1.1 (fun w' hF => h w' (hI1.frT hS hF.T))
theorem mm_whyNotStep {w : Wd} {b : Nat} {S : Sy} {x y z : Int32} {Post : Int32 → Wd → Prop} (hS : S.ok b) (hI : TI w S) (h : MN Post (wnsA S x y z)) : wp_X9_whyNotStep w x y z Post := by
  unfold wp_X9_whyNotStep
  have hI1 := hI.th hS 0
  exact wm_whyStep hS.hg hI1.1 (h _ hI1)
theorem mm_whyNotClaim {w : Wd} {b : Nat} {S : Sy} {x : Int32} {Post : Int32 → Wd → Prop} (hS : S.ok b) (hI : TI w S) (h : MN Post (wncA S x)) : wp_X9_whyNotClaim w x Post := by
  unfold wp_X9_whyNotClaim
  have hI1 := hI.th hS 0
  exact wm_whyClaim hS.hg hS.hr hI1.1 (h _ hI1)
theorem mm_whyNotLock {w : Wd} {b : Nat} {S : Sy} {x y : Int32} {Post : Int32 → Wd → Prop} (hS : S.ok b) (hI : TI w S) (h : MN Post (wnlA S x y)) : wp_X9_whyNotLock w x y Post := by
  unfold wp_X9_whyNotLock
  have hI1 := hI.th hS 0
  exact wm_whyLock hS.hg hS.hr hI1.1 (h _ hI1)
theorem mm_whyNotBack {w : Wd} {b : Nat} {S : Sy} {Post : Int32 → Wd → Prop} (hS : S.ok b) (hb : b < 2 ^ 30) (hI : TI w S) (h : MN Post (wnbA S)) : wp_X9_whyNotBack w Post := by
  unfold wp_X9_whyNotBack
  have hI1 := hI.th hS 0
  exact wm_whyBack (g := S.g) hS.hr hb hI1.1 (h _ hI1)
theorem mm_undo {w : Wd} {b : Nat} {S : Sy} {Post : Int32 → Wd → Prop} (hS : S.ok b) (hI : TI w S) (h : MN Post (undA S)) : wp_X9_undo w Post := by
  unfold undA at h
  refine wm_undo hS hI (fun w' c hI' => ?_) (fun w' c hI' => ?_)
  · rw [if_pos c] at h
    exact h w' hI'
  · rw [if_neg (by omega)] at h
    exact h w' hI'
theorem in2 {k : Nat} (hk : k < 2) : ¬ (nI k < 0 ∨ 1 < nI k) := fun c => c.elim (fun c => nI_pos (by omega) c) (fun c => by
  have : nI 1 < nI k := c
  simp (disch := omega) only [nI_ltI] at this
  omega)
theorem mm_save {w : Wd} {b : Nat} {S : Sy} {x : Int32} {Post : Int32 → Wd → Prop} (hS : S.ok b) (hI : TI w S) (h : MN Post (savA S x)) : wp_X9_saveSnapshot w x Post := by
  unfold savA at h
  refine wm_save hS hI (fun w' c hI' => ?_) (fun k w' hk e hI' => ?_)
  · by_cases q : x < 0 ∨ 1 < x
    · rw [if_pos q] at h
      exact h w' hI'
    · obtain ⟨k, hk, e⟩ := wi2 q
      exact absurd e (c k hk)
  · subst e
    rw [if_neg (in2 hk), nI_clamp (by omega)] at h
    exact h w' hI'
theorem mm_restore {w : Wd} {b : Nat} {S : Sy} {x : Int32} {Post : Int32 → Wd → Prop} (hS : S.ok b) (hI : TI w S) (h : MN Post (resA S x)) : wp_X9_restoreSnapshot w x Post := by
  unfold resA at h
  refine wm_restore hS hI (fun w' c hI' => ?_) (fun k w' hk e hs hI' => ?_)
  · by_cases q : x < 0 ∨ 1 < x
    · rw [if_pos q] at h
      exact h w' hI'
    · rw [if_neg q] at h
      obtain ⟨k, hk, rfl⟩ := wi2 q
      rw [nI_clamp (by omega), if_neg (by rw [c k hk rfl]; decide)] at h
      exact h w' hI'
  · subst e
    rw [if_neg (in2 hk), nI_clamp (by omega), if_pos hs] at h
    exact h w' hI'
theorem mm_append {w : Wd} {b0 : Nat} {S : Sy} {a b c d e : Int32} {Post : Int32 → Wd → Prop} (hS : S.ok b0) (hI : TI w S) (h : MN Post (apdA S a b c d e)) : wp_X9_append w a b c d e Post := by
  unfold apdA at h
  refine wm_append hS hI (fun w' c hI' => ?_) (fun w' c hI' => ?_)
  · rw [if_neg (by omega)] at h
    exact h w' hI'
  · rw [if_pos c] at h
    exact h w' hI'
theorem mm_parse {w : Wd} {b : Nat} {S : Sy} {x : Int32} {Post : Int32 → Wd → Prop} (hS : S.ok b) (hB : bufOK S) (hI : TI w S) (h : ML Post (parA S x)) : wp_X9_parse w x Post := by
  have hlen := hS.2.2.2.2
  unfold parA at h
  have nin : ∀ lim, lim ≤ S.len → ¬ (nI lim < 0 ∨ nI S.len < nI lim) := fun lim hl c => c.elim (fun c => nI_pos (by omega) c) (fun c => by
    simp (disch := omega) only [nI_ltI] at c
    omega)
  refine wm_parse hS hB hI (fun c w' hI' e => ?_) (fun lim e w' ex hl he hI' e0 => ?_) (fun lim D w' ex hl hok hI' e0 => ?_)
  · rw [if_pos c] at h
    exact h w' 0 hI' e (fun q => absurd (show (1 : Int32) = 0 from q) (by decide))
  · subst ex
    rw [if_neg (nin lim hl), nI_clamp (by omega), he] at h
    exact h.ok hI' e0
  · subst ex
    rw [if_neg (nin lim hl), nI_clamp (by omega), hok] at h
    exact h.ok hI' e0

/-! the class: the list of allowed steps -/
def alB (g : Gm) (r : Rs) (l h s : Nat) : Bool := okS (g.lk l) (g.sz l) (g.co l) h s && decide (barS r l (nI l) (nI h) (nI s) = 0)
abbrev Cho : Type := Nat × Nat × Nat
def fS (g : Gm) (r : Rs) (l h : Nat) : Nat → List Cho
  | 0 => []
  | k + 1 => (if alB g r l h (12 - k) = true then [(l, h, 12 - k)] else []) ++ fS g r l h k
def fH (g : Gm) (r : Rs) (l : Nat) : Nat → List Cho
  | 0 => []
  | h + 1 => fS g r l (h + 1) 12 ++ fH g r l h
def fL (g : Gm) (r : Rs) : Nat → List Cho
  | 0 => []
  | k + 1 => fH g r (g.n - (k + 1)) (g.top (g.n - (k + 1))) ++ fL g r k
def chs (g : Gm) (r : Rs) : List Cho := fL g r g.n
theorem fS_nil {g : Gm} {r : Rs} {l h : Nat} : ∀ {k : Nat}, (∀ i, i < k → alB g r l h (12 - i) = false) → fS g r l h k = []
  | 0, _ => rfl
  | k + 1, hk => by
    rw [fS, if_neg (by rw [hk k (by omega)]; decide), fS_nil (fun i hi => hk i (by omega))]
    rfl
theorem alB_ok {g : Gm} {r : Rs} {l h s : Nat} (hk : alB g r l h s = true) : okS (g.lk l) (g.sz l) (g.co l) h s = true ∧ barS r l (nI l) (nI h) (nI s) = 0 := by
  unfold alB at hk
  rw [Bool.and_eq_true, decide_eq_true_eq] at hk
  exact hk
theorem fS_len {g : Gm} {r : Rs} {l h : Nat} : ∀ k, (fS g r l h k).length ≤ if (g.co l).testBit h = true then fb_ct (fun i => (g.sz l).testBit (12 - i)) k else 0
  | 0 => by simp [fS]
  | k + 1 => by
    have ih := fS_len (g := g) (r := r) (l := l) (h := h) k
    rw [fS, List.length_append]
    by_cases ha : alB g r l h (12 - k) = true
    · obtain ⟨h1, h2, h3, h4, h5⟩ := okS_sp (alB_ok ha).1
      rw [if_pos h1] at ih ⊢
      rw [if_pos ha, fb_ct_succ, if_pos h2, List.length_singleton]
      omega
    · rw [if_neg ha, List.length_nil]
      by_cases hm : (g.co l).testBit h = true
      · rw [if_pos hm] at ih ⊢
        rw [fb_ct_succ]
        omega
      · rw [if_neg hm] at ih ⊢
        omega
theorem rev12 (p : Nat → Bool) : fb_ct (fun i => p (12 - i)) 12 + (if p 0 = true then 1 else 0) = fb_ct p 13 := by
  simp only [fb_ct_succ, fb_ct, Nat.reduceSub, Nat.sub_zero]
  omega
theorem fH_len {g : Gm} {r : Rs} {l : Nat} : ∀ h, (fH g r l h).length ≤ fb_ct (fun i => (g.co l).testBit i) (h + 1) * pop (g.sz l)
  | 0 => by simp [fH]
  | h + 1 => by
    rw [fH, List.length_append]
    have ih := fH_len (g := g) (r := r) (l := l) h
    have h2 := fS_len (g := g) (r := r) (l := l) (h := h + 1) 12
    have h3 := rev12 (fun i => (g.sz l).testBit i)
    rw [fb_ct_succ (n := h + 1)]
    unfold pop at ih ⊢
    by_cases hm : (g.co l).testBit (h + 1) = true
    · rw [if_pos hm] at h2 ⊢
      rw [Nat.add_mul, Nat.one_mul]
      omega
    · rw [if_neg hm] at h2 ⊢
      simp only [Nat.add_zero]
      omega
theorem fL_len {g : Gm} {r : Rs} (hg : g.ok) : ∀ k, k ≤ g.n → (fL g r k).length ≤ 12 * k
  | 0, _ => by simp [fL]
  | k + 1, hk => by
    rw [fL, List.length_append]
    have ih := fL_len (r := r) hg k (by omega)
    have h2 := fH_len (g := g) (r := r) (l := g.n - (k + 1)) (g.top (g.n - (k + 1)))
    obtain ⟨b1, b2, b3, b4, b5, b6, b7, b8, b9, b10⟩ := hg.2 (g.n - (k + 1)) (by omega)
    have h3 : fb_ct (fun i => (g.co (g.n - (k + 1))).testBit i) (g.top (g.n - (k + 1)) + 1) ≤ pop (g.co (g.n - (k + 1))) := fb_ct_mono _ (by omega)
    have h4 := Nat.mul_le_mul (Nat.le_trans h3 (Nat.le_trans b10 b3)) b5
    omega
theorem chs_len {g : Gm} (hg : g.ok) (r : Rs) : (chs g r).length ≤ 72 := by
  have := fL_len (r := r) hg g.n (Nat.le_refl _)
  have := hg.1
  unfold chs
  omega
/-- what lies in a list of the allowed steps -/
def inC (g : Gm) (r : Rs) (c : Cho) : Prop := c.1 < g.n ∧ 1 ≤ c.2.1 ∧ c.2.1 ≤ g.top c.1 ∧ 1 ≤ c.2.2 ∧ c.2.2 ≤ 12 ∧ alB g r c.1 c.2.1 c.2.2 = true
theorem fS_in {g : Gm} {r : Rs} {l h : Nat} (hl : l < g.n) (h1 : 1 ≤ h) (h2 : h ≤ g.top l) : ∀ k, k ≤ 12 → ∀ c ∈ fS g r l h k, inC g r c
  | 0, _, c, hc => by simp [fS] at hc
  | k + 1, hk, c, hc => by
    rw [fS, List.mem_append] at hc
    rcases hc with hc | hc
    · by_cases ha : alB g r l h (12 - k) = true
      · rw [if_pos ha, List.mem_singleton] at hc
        subst hc
        exact ⟨hl, h1, h2, by show 1 ≤ 12 - k; omega, by show 12 - k ≤ 12; omega, ha⟩
      · rw [if_neg ha] at hc
        cases hc
    · exact fS_in hl h1 h2 k (by omega) c hc
theorem fH_in {g : Gm} {r : Rs} {l : Nat} (hl : l < g.n) : ∀ h, h ≤ g.top l → ∀ c ∈ fH g r l h, inC g r c
  | 0, _, c, hc => by simp [fH] at hc
  | h + 1, hh, c, hc => by
    rw [fH, List.mem_append] at hc
    rcases hc with hc | hc
    · exact fS_in hl (by omega) hh 12 (by omega) c hc
    · exact fH_in hl h (by omega) c hc
theorem fL_in {g : Gm} {r : Rs} : ∀ k, k ≤ g.n → ∀ c ∈ fL g r k, inC g r c
  | 0, _, c, hc => by simp [fL] at hc
  | k + 1, hk, c, hc => by
    rw [fL, List.mem_append] at hc
    rcases hc with hc | hc
    · exact fH_in (by omega) _ (Nat.le_refl _) c hc
    · exact fL_in k (by omega) c hc
theorem chs_in {g : Gm} {r : Rs} {c : Cho} (h : c ∈ chs g r) : inC g r c := fL_in g.n (Nat.le_refl _) c h
/-- a step's number in the class's list -/
def cdN (c : Cho) : Nat := c.1 * 256 + (c.2.1 * 16 + c.2.2)
theorem cd_or {l h s : Nat} (hl : l < 6) (hh : h ≤ 12) (hs : s ≤ 12) : (nI l <<< (8 &&& 31) ||| nI h <<< (4 &&& 31)) ||| nI s = nI (cdN (l, h, s)) := by
  have e1 : nI l <<< (8 &&& 31) = nI (l * 256) := pk_shlN (n := l) (8 &&& 31) 8 (by decide) (by omega)
  have e2 : nI h <<< (4 &&& 31) = nI (h * 16) := pk_shlN (n := h) (4 &&& 31) 4 (by decide) (by omega)
  rw [e1, e2]
  have f1 := fa_or_sum (a := h * 16) (k := 8) l (by omega)
  have f2 := fa_or_sum (a := s) (k := 4) (16 * l + h) (by omega)
  rw [show 2 ^ 8 * l = l * 256 by omega] at f1
  rw [f1]
  rw [show 2 ^ 4 * (16 * l + h) = l * 256 + h * 16 by omega] at f2
  rw [f2]
  exact congrArg nI (show l * 256 + h * 16 + s = l * 256 + (h * 16 + s) by omega)
/-- that the class's row holds a list -/
def okCh (w : Wd) (xs : List Cho) : Prop := ∀ i, i < xs.length → gA w 4 i = nI (cdN (xs.getD i (0, 0, 0)))
theorem okCh_push {w : Wd} {xs : List Cho} {c : Cho} (h : okCh w xs) : okCh (sA w 4 xs.length (nI (cdN c))) (xs ++ [c]) := by
  intro i hi
  rw [List.length_append, List.length_singleton] at hi
  rw [gA_sA]
  by_cases e : i = xs.length
  · subst e
    rw [if_pos ⟨rfl, rfl⟩]
    simp
  · rw [if_neg (fun q => e q.2), h i (by omega)]
    congr 2
    rw [List.getD_eq_getElem?_getD, List.getD_eq_getElem?_getD, List.getElem?_append_left (by omega)]
theorem why_al {g : Gm} {r : Rs} {l h s : Nat} (hg : g.ok) (hl : l < g.n) (h1 : 1 ≤ h) (h2 : h ≤ g.top l) (s1 : 1 ≤ s) (s2 : s ≤ 12) : whyS g r (nI l) (nI h) (nI s) = 0 ↔ alB g r l h s = true := by
  obtain ⟨b1, b2, b3, b4, b5, b6, b7, b8, b9, b10⟩ := hg.2 l hl
  have hn := hg.1
  unfold whyS alB okS
  rw [if_neg (ladN hn hl), nI_clamp (show l < 2 ^ 31 by omega), nI_clamp (show h < 2 ^ 31 by omega), nI_clamp (show s < 2 ^ 31 by omega)]
  have n1 : ¬ nI h < 1 := nI_nlt (a := h) (b := 1) h1 (by omega)
  have n2 : ¬ nI (g.top l) < nI h := nI_nlt h2 (by omega)
  have n3 : ¬ nI s < 1 := nI_nlt (a := s) (b := 1) s1 (by omega)
  have n4 : ¬ (12 : Int32) < nI s := nI_nlt (a := 12) (b := s) s2 (by omega)
  cases hm : (g.co l).testBit h
  · rw [if_pos (Or.inr (Or.inr rfl))]
    simp
  rw [if_neg (fun q => q.elim n1 (fun q => q.elim n2 (fun q => by cases q)))]
  cases hz : (g.sz l).testBit s
  · rw [if_pos (Or.inr (Or.inr rfl))]
    simp
  rw [if_neg (fun q => q.elim n3 (fun q => q.elim n4 (fun q => by cases q)))]
  by_cases hs : s ≤ h
  · rw [if_neg (nI_nlt hs (by omega)), decide_eq_true hs]
    cases (g.lk l).testBit (h - s)
    · rw [if_neg (by decide)]
      cases (g.co l).testBit (h - s)
      · rw [if_neg (by decide)]
        simp
      · rw [if_pos rfl]
        simp
    · rw [if_pos rfl]
      simp
  · rw [if_pos (nI_lt (by omega) (by omega)), decide_eq_false hs]
    simp
/-- all but the row of choices, the caches and the scratch: the row is scratch too (FrW) -/
theorem FrW.s4 (w : Wd) (i : Nat) (x : Int32) : FrW w (sA w 4 i x) := ⟨fun _ _ _ => rfl, fun o j _ h4 _ _ => by rw [gA_sA, if_neg (fun q => h4 q.1)], rfl⟩
theorem VCs.sA {w : Wd} (h : VCs w) {o i : Nat} (x : Int32) (ho : ¬ (41 ≤ o ∧ o < 53)) : VCs (sA w o i x) := by
  intro j hj
  obtain ⟨cc', z', l', f', ⟨a1, a2, a3, a4, a5, a6⟩, hr⟩ := h j hj
  refine ⟨cc', z', l', f', ⟨a1, a2, a3, a4, a5, fun r hr => ?_⟩, hr⟩
  rw [gA_sA, if_neg (by omega)]
  exact a6 r hr
theorem GC.s4 {w : Wd} {g : Gm} (h : GC w g) (i : Nat) (x : Int32) : GC (sA w 4 i x) g := h.frW (FrW.s4 w i x) (h.2.2.2.sA x (by decide))
set_option maxRecDepth 4000 in
theorem wh_listChoices {w : Wd} {b : Nat} {g : Gm} {r : Rs} {Post : Int32 → Wd → Prop} (hg : g.ok) (hr : r.ok b g.n) (hG : GC w g) (hR : CR w 0 g.n r) (h : ∀ w', GC w' g → FrW w w' → okCh w' (chs g r) → Post (nI (chs g r).length) w') : wp_X0_listChoices w Post := by
  unfold wp_X0_listChoices
  intro J4 J25 J55 h4 h25 h55
  have hn := hg.1
  have h72 := chs_len hg r
  have outer : ∀ k, k ≤ g.n → ∀ pre w', pre ++ fL g r k = chs g r → GC w' g → FrW w w' → okCh w' pre → J4 (nI pre.length) (nI (g.n - k)) w' := by
    intro k
    induction k with
    | zero =>
      intro hk pre w' hp hG' hF hC
      rw [show pre = chs g r by rw [← hp]; simp [fL]] at hC ⊢
      refine h4 _ _ _ ⟨fun _ => h w' hG' hF hC, fun c => ?_⟩
      rw [show gI w' (27 + 7 * 1) 6 = nI g.n from hG'.1] at c
      simp (disch := omega) only [nI_leI] at c
      omega
    | succ k ih =>
      intro hk pre w' hp hG' hF hC
      have hln : g.n - (k + 1) < g.n := by omega
      obtain ⟨b1, b2, b3, b4, b5, b6, b7, b8, b9, b10⟩ := hg.2 (g.n - (k + 1)) hln
      have ih' := ih (by omega)
      rw [show g.n - k = g.n - (k + 1) + 1 by omega] at ih'
      generalize hl : g.n - (k + 1) = l at hln b1 b2 b3 b4 b5 b6 b7 b8 b9 b10 ih'
      have hc := g.co13 hg hln
      have mid : ∀ hh, hh ≤ g.top l → ∀ pre w', pre ++ (fH g r l hh ++ fL g r k) = chs g r → GC w' g → FrW w w' → okCh w' pre → J25 (nI pre.length) (nI l) (nI hh) w' := by
        intro hh
        induction hh with
        | zero =>
          intro _ pre w' hp hG' hF hC
          refine h25 _ _ _ _ ⟨fun _ y e => ?_, fun c => absurd (by decide) c⟩
          subst e
          rw [nI_1]
          exact ih' pre w' (by simpa [fH] using hp) hG' hF hC
        | succ hh ihm =>
          intro hh2 pre w' hp hG' hF hC
          have ihm' := ihm (by omega)
          have nxt : ∀ pre w', pre ++ (fH g r l hh ++ fL g r k) = chs g r → GC w' g → FrW w w' → okCh w' pre → ∀ y, y = nI (hh + 1) + (-1) → J25 (nI pre.length) (nI l) y w' := by
            intro pre w' hp hG' hF hC y e
            subst e
            rw [pk_m1]
            exact ihm' pre w' hp hG' hF hC
          have hst : hh + 1 ≤ 12 := by omega
          have inner : (g.co l).testBit (hh + 1) = true → ∀ q, q ≤ 12 → ∀ pre w', pre ++ (fS g r l (hh + 1) q ++ (fH g r l hh ++ fL g r k)) = chs g r → GC w' g → FrW w w' → okCh w' pre → J55 (nI pre.length) (nI l) (nI (hh + 1)) (nI (hh + 1)) (nI (13 - q)) w' := by
            intro hbit q
            induction q with
            | zero =>
              intro hq pre w' hp hG' hF hC
              have hp' : pre ++ (fH g r l hh ++ fL g r k) = chs g r := by simpa [fS] using hp
              refine h55 _ _ _ _ _ _ ⟨fun _ => nxt pre w' hp' hG' hF hC, fun c => ?_⟩
              simp (disch := omega) only [nI_ltI] at c
              omega
            | succ q ihq =>
              intro hq pre w' hp hG' hF hC
              have ihq' := ihq (by omega)
              rw [show 13 - q = 13 - (q + 1) + 1 by omega] at ihq'
              have hs1 : 13 - (q + 1) = 12 - q := by omega
              rw [hs1] at ihq' ⊢
              refine h55 _ _ _ _ _ _ ⟨fun c => ?_, fun c => ⟨fun c2 => ?_, fun c2 => ?_⟩⟩
              · simp (disch := omega) only [nI_ltI] at c
                have e0 : fS g r l (hh + 1) (q + 1) = [] := fS_nil (fun i hi => by
                  unfold alB okS
                  rw [decide_eq_false (show ¬ 12 - i ≤ hh + 1 by omega)]
                  simp)
                rw [e0] at hp
                exact nxt pre w' hp hG' hF hC
              · have hlen : pre.length ≤ 72 := by rw [← hp, List.length_append] at h72; omega
                simp (disch := omega) only [fa_lit, nI_leI] at c2
                have e0 : fS g r l (hh + 1) (q + 1) = [] := by
                  rw [← hp, List.length_append, List.length_append] at h72
                  exact List.eq_nil_of_length_eq_zero (by omega)
                rw [e0] at hp
                exact nxt pre w' hp hG' hF hC
              · have hlen : pre.length ≤ 72 := by rw [← hp, List.length_append] at h72; omega
                simp (disch := omega) only [fa_lit, nI_leI] at c2
                have hwhy := why_al (r := r) hg hln (show 1 ≤ hh + 1 by omega) hh2 (show 1 ≤ 12 - q by omega) (by omega)
                refine wh_reason hg hG' (hF.CR hR) ⟨fun c3 y6 e6 => ?_, fun c3 y e => ?_⟩
                · have ha := hwhy.mp c3
                  rw [cd_or (by omega) hst (by omega)] at e6
                  subst e6
                  refine ⟨pk_in pre.length 72 (by omega), fun y7 e7 y8 e8 => ?_⟩
                  subst e7 e8
                  rw [nI_clamp (by omega), nI_1, nI_1]
                  have e1 : fS g r l (hh + 1) (q + 1) = (l, hh + 1, 12 - q) :: fS g r l (hh + 1) q := by rw [fS, if_pos ha]; rfl
                  rw [e1] at hp
                  have := ihq' (pre ++ [(l, hh + 1, 12 - q)]) (sA w' 4 pre.length (nI (cdN (l, hh + 1, 12 - q)))) (by rw [← hp]; simp) (hG'.s4 _ _) (hF.tr (FrW.s4 _ _ _)) (okCh_push hC)
                  rw [List.length_append, List.length_singleton] at this
                  exact this
                · have ha : ¬ alB g r l (hh + 1) (12 - q) = true := fun q => c3 (hwhy.mpr q)
                  subst e
                  rw [nI_1]
                  have e1 : fS g r l (hh + 1) (q + 1) = fS g r l (hh + 1) q := by rw [fS, if_neg ha]; rfl
                  rw [e1] at hp
                  exact ihq' pre w' hp hG' hF hC
          obtain ⟨a1, a2, a3, a4, a5⟩ := hG'.2.1 l hln
          refine h25 _ _ _ _ ⟨fun c => ?_, fun _ => ⟨pk_in l 6 (by omega), ?_⟩⟩
          · simp (disch := omega) only [fa_lit, nI_leI] at c
            omega
          · rw [nI_clamp (show l < 2 ^ 31 by omega), show gA w' (53 + 8 * 0 + 1) l = nI (g.co l) from a4]
            refine wh_hasBit (lt31 hc) (by omega) ?_
            rw [bI_0]
            refine ⟨fun hb => ?_, fun hb => ?_⟩
            · have e0 : fS g r l (hh + 1) 12 = [] := fS_nil (fun i hi => by
                unfold alB okS
                rw [hb]
                simp)
              rw [fH, e0] at hp
              refine h55 _ _ _ _ _ _ ⟨fun _ => nxt pre w' hp hG' hF hC, fun c => absurd (by decide) c⟩
            · rw [fH, List.append_assoc] at hp
              exact inner (by simpa using hb) 12 (by omega) pre w' hp hG' hF hC
      obtain ⟨a1, a2, a3, a4, a5⟩ := hG'.2.1 l hln
      refine h4 _ _ _ ⟨fun c => ?_, fun _ => ⟨pk_in l 6 (by omega), fun y1 e1 => ?_⟩⟩
      · rw [show gI w' (27 + 7 * 1) 6 = nI g.n from hG'.1] at c
        simp (disch := omega) only [nI_leI] at c
        omega
      · rw [nI_clamp (show l < 2 ^ 31 by omega), show gA w' (27 + 7 * 1 + 1) l = nI (g.top l) from a1] at e1
        subst e1
        rw [fL, hl] at hp
        exact mid (g.top l) (Nat.le_refl _) pre w' hp hG' hF hC
  have := outer g.n (Nat.le_refl _) [] w (by simp [chs]) hG (FrW.rf w) (fun i hi => absurd hi (Nat.not_lt_zero i))
  rw [Nat.sub_self] at this
  exact this

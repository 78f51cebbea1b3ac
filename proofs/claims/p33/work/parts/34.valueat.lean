/-! the class: a value by its place, filling what is wanting -/
def FrV (k : Nat) (w w' : Wd) : Prop := (∀ o s, o ≠ 41 + 2 * k → gI w' o s = gI w o s) ∧ (∀ o i, o ≠ 7 → o ≠ 41 + 2 * k + 1 → gA w' o i = gA w o i) ∧ w'.2.2 = w.2.2
theorem FrV.rf (k : Nat) (w : Wd) : FrV k w w := ⟨fun _ _ _ => rfl, fun _ _ _ _ => rfl, rfl⟩
theorem FrV.tr {k : Nat} {a b c : Wd} (h : FrV k a b) (g : FrV k b c) : FrV k a c := ⟨fun o s q => (g.1 o s q).trans (h.1 o s q), fun o i q r => (g.2.1 o i q r).trans (h.2.1 o i q r), g.2.2.trans h.2.2⟩
def vR (cc z l r : Nat) : Nat := if cc < pop (posN r) then 0 else val l z (posN r)
theorem wh_valueAt {k : Nat} {r cc z l : Nat} {Post : Int32 → Wd → Prop} (hr : r < 299) (hl : l < 8192) (hl0 : l.testBit 0 = false) (hz8 : z < 8192) (hz : pop z ≤ 4) (hcc : cc ≤ 3) : ∀ (n : Nat) (w : Wd) (f : Nat), r + 1 ≤ f + n → VC w k cc z l f → (∀ i, i < 299 → gA w 6 i = nI (posN i)) → (∀ w' f', r < f' → VC w' k cc z l f' → FrV k w w' → Post (nI (vR cc z l r)) w') → wp_X3_valueAt k w (nI r) Post := by
  intro n0 w0 f0 hn0 hV0 hM0 hpost
  unfold wp_X3_valueAt
  intro J hJ
  have key : ∀ (n : Nat) (w : Wd) (f : Nat), r + 1 ≤ f + n → VC w k cc z l f → FrV k w0 w → J w := by
    intro n
    have fin : ∀ (w : Wd) (f : Nat), r < f → VC w k cc z l f → FrV k w0 w → ((nI r < 0 → (Post 0 w)) ∧ (¬ nI r < 0 → ((299 ≤ nI r → (Post 0 w)) ∧ (¬ 299 ≤ nI r → (vp_in (nI r) 299 ∧ (Post (gA w (41 + 2 * k + 1) (nI r).toNatClampNeg) w)))))) := by
      intro w f hf hV hF
      refine ⟨fun q => absurd q (nI_pos (by omega)), fun _ => ⟨fun q => ?_, fun _ => ⟨pk_in r 299 hr, ?_⟩⟩⟩
      · simp (disch := omega) only [fa_lit, nI_leI] at q
        omega
      · rw [nI_clamp (by omega), hV.2.2.2.2.2 r hf]
        exact hpost w f hf hV hF
    induction n with
    | zero =>
      intro w f hn hV hF
      have e4 := hV.2.2.2.1
      have hf9 := hV.2.2.2.2.1
      refine hJ _ ⟨fun _ => fin w f (by omega) hV hF, fun c => ?_⟩
      rw [e4] at c
      simp (disch := omega) only [nI_ltI] at c
      omega
    | succ n ih =>
      intro w f hn hV hF
      obtain ⟨e1, e2, e3, e4, hf9, hvs⟩ := id hV
      refine hJ _ ⟨fun c => ?_, fun c => ?_⟩
      · rw [e4] at c
        simp (disch := omega) only [nI_ltI] at c
        exact fin w f c hV hF
      · rw [e4] at c ⊢
        simp (disch := omega) only [nI_ltI] at c
        refine ⟨fun q => ?_, fun _ => ⟨pk_in f 299 (by omega), fun y1 ey1 => ?_⟩⟩
        · simp (disch := omega) only [fa_lit, nI_leI] at q
          omega
        · have hM : ∀ i, i < 299 → gA w 6 i = nI (posN i) := fun i hi => (hF.2.1 6 i (by decide) (by omega)).trans (hM0 i hi)
          rw [nI_clamp (by omega), hM f (by omega)] at ey1
          subst ey1
          obtain ⟨hp, hrk⟩ := pos_ok (r := f) (by omega)
          obtain ⟨m1, m2, m3⟩ := isPos_sp hp
          have put : ∀ (w3 : Wd) (v : Nat), VC w3 k cc z l f → FrV k w0 w3 → v = vR cc z l f → ∀ y : Int32, y = gI (sA w3 (41 + 2 * k + 1) ((nI f).toNatClampNeg) (nI v)) (41 + 2 * k) 4 + 1 → J (sI (sA w3 (41 + 2 * k + 1) ((nI f).toNatClampNeg) (nI v)) (41 + 2 * k) 4 y) := by
            intro w3 v hV3 hF3 hv y ey
            obtain ⟨a1, a2, a3, a4, a5, a6⟩ := hV3
            rw [gI_sA, a4, nI_1] at ey
            subst ey
            rw [nI_clamp (by omega)]
            refine ih _ (f + 1) (by omega) ⟨?_, ?_, ?_, ?_, by omega, fun j hj => ?_⟩ ⟨fun o s ho => ?_, fun o i h7 ho => ?_, hF3.2.2⟩
            · rw [gI_sI, if_neg (by omega), gI_sA]; exact a1
            · rw [gI_sI, if_neg (by omega), gI_sA]; exact a2
            · rw [gI_sI, if_neg (by omega), gI_sA]; exact a3
            · rw [gI_sI, if_pos ⟨rfl, rfl⟩]
            · rw [gA_sI, gA_sA]
              by_cases e : j = f
              · rw [if_pos ⟨rfl, e⟩, hv, e]; rfl
              · rw [if_neg (fun q => e q.2)]
                exact a6 j (by omega)
            · rw [gI_sI, if_neg (fun q => ho q.1), gI_sA]
              exact hF3.1 o s ho
            · rw [gA_sI, gA_sA, if_neg (fun q => ho q.1)]
              exact hF3.2.1 o i h7 ho
          refine wh_bitCount m1 ?_
          rw [e1]
          refine ⟨fun c2 => ?_, fun c2 => ?_⟩
          · simp (disch := omega) only [nI_leI] at c2
            refine wh_valuesBehind hp hl hl0 hz8 hz e2 e3 (fun x hx => ?_) (fun B q hq hqb => ?_)
            · obtain ⟨p1, p2, p3⟩ := nxs_pos hp hx
              rw [hvs _ (by omega), (rank_ok p1).2, if_neg (by omega)]
            · refine wh_firstMissing (by omega) ?_
              refine ⟨pk_in f 299 (by omega), ?_⟩
              refine put _ _ ⟨?_, ?_, ?_, ?_, hf9, fun j hj => ?_⟩ ⟨fun o s ho => ?_, fun o i h7 ho => ?_, hF.2.2⟩ ?_
              · rw [gI_sF]; exact e1
              · rw [gI_sF]; exact e2
              · rw [gI_sF]; exact e3
              · rw [gI_sF]; exact e4
              · rw [gA_sF, if_neg (by omega)]; exact hvs j hj
              · rw [gI_sF]; exact hF.1 o s ho
              · rw [gA_sF, if_neg h7]; exact hF.2.1 o i h7 ho
              · unfold vR
                rw [if_neg (by omega), val_eq m2]
                exact mex_cong hqb
          · simp (disch := omega) only [nI_leI] at c2
            refine ⟨pk_in f 299 (by omega), ?_⟩
            refine put w 0 hV hF ?_
            unfold vR
            rw [if_pos (by omega)]
  exact key n0 w0 f0 hn0 hV0 (FrV.rf k w0)

/-! the class: isRight says yes -/
theorem wh_isRight {w : Wd} {g : Gm} {Post : Int32 → Wd → Prop} (hg : g.ok) (hG : GC w g) (h : ∀ w', GC w' g → FrC w w' → Post 1 w') : wp_X8_isRight w Post := by
  unfold wp_X8_isRight
  intro J hJ
  have hn6 := hg.1
  have key : ∀ k l, l + k = g.n → ∀ w', GC w' g → FrC w w' → J 1 (nI l) w' := by
    intro k
    induction k with
    | zero =>
      intro l hl w' hG' hF
      obtain rfl : l = g.n := by omega
      have e : gI w' (27 + 7 * 1) 6 = nI g.n := hG'.1
      refine hJ _ _ _ ⟨fun _ => ⟨Or.inr rfl, h w' hG' hF⟩, fun c => ?_⟩
      rw [e] at c
      simp (disch := omega) only [nI_leI] at c
      omega
    | succ k ih =>
      intro l hl w' hG' hF
      have hln : l < g.n := by omega
      have e : gI w' (27 + 7 * 1) 6 = nI g.n := hG'.1
      refine hJ _ _ _ ⟨fun c => ?_, fun _ => ⟨fun c => absurd c (by decide), fun _ => ?_⟩⟩
      · rw [e] at c
        simp (disch := omega) only [nI_leI] at c
        omega
      · refine wh_hasRight hg hG' hln (fun w2 hG2 hF2 => ⟨fun c => absurd c (by decide), fun _ y ey => ?_⟩)
        subst ey
        rw [nI_1]
        exact ih (l + 1) (by omega) w2 hG2 (hF.tr hF2)
  exact key g.n 0 (by omega) w hG (FrC.rf w)

/-! the class: listBehind leaves the places of the sets behind -/
theorem lt13 {x : Nat} (h : ∀ i, 13 ≤ i → x.testBit i = false) : x < 8192 := Nat.lt_pow_two_of_testBit x (n := 13) h
def okB (B : Nat → Int32) (xs : List Nat) : Prop := ∀ i, i < xs.length → B i = nI (rankN (xs.getD i 0))
theorem okB_push {B : Nat → Int32} {xs : List Nat} {x : Nat} (h : okB B xs) : okB (upd B xs.length (nI (rankN x))) (xs ++ [x]) := by
  intro i hi
  rw [List.length_append, List.length_singleton] at hi
  by_cases e : i = xs.length
  · subst e
    rw [pk_us]
    simp
  · rw [pk_un e, h i (by omega)]
    congr 2
    rw [List.getD_eq_getElem?_getD, List.getD_eq_getElem?_getD, List.getElem?_append_left (by omega)]
set_option maxRecDepth 10000 in
theorem wh_listBehind {w : Wd} {m l z : Nat} {Post : Int32 → Wd → Prop} (hm : isPos m = true) (hl : l < 8192) (hz8 : z < 8192) (hz : pop z ≤ 4) (h : ∀ B : Nat → Int32, okB B (pB l z m 12 0) → Post (nI (pB l z m 12 0).length) (sF w 7 B)) : wp_X4_listBehind w (nI m) (nI z) (nI l) Post := by
  obtain ⟨m1, m2, m3⟩ := isPos_sp hm
  unfold wp_X4_listBehind
  intro J6 J38 h6 h38
  have inner : ∀ s, s < 12 → (∀ B, okB B (pB l z m (s + 1) 0) → J6 (nI (pB l z m (s + 1) 0).length) (nI (1 + (s + 1))) (sF w 7 B)) → ∀ T, T < 2 ^ 31 → (∀ t, t < 12 → T.testBit t = (z.testBit (1 + s) && (tgs m l (1 + s)).testBit t)) → ∀ k t, t + k = 12 → ∀ B, okB B (pB l z m s t) → J38 (nI (pB l z m s t).length) (nI (1 + s)) (nI T) (nI t) (sF w 7 B) := by
    intro s hs next T hT hTb k
    have out : ∀ B, okB B (pB l z m s 12) → ∀ y : Int32, y = nI (1 + s) + 1 → J6 (nI (pB l z m s 12).length) y (sF w 7 B) := by
      intro B hB y e
      subst e
      rw [nI_1, Nat.add_assoc, ← pB_s]
      rw [← pB_s] at hB
      exact next B hB
    induction k with
    | zero =>
      intro t ht B hB
      obtain rfl : t = 12 := by omega
      refine h38 _ _ _ _ _ ⟨fun _ => out B hB, fun q => absurd (by decide) q⟩
    | succ k ih =>
      intro t ht B hB
      refine h38 _ _ _ _ _ ⟨fun c => ?_, fun c => ?_⟩
      · simp (disch := omega) only [fa_lit, nI_leI] at c
        omega
      · rw [nI_shr hT (by omega)]
        have hT2 : T / 2 ^ t < 2 ^ 31 := Nat.lt_of_le_of_lt (Nat.div_le_self _ _) hT
        refine ⟨fun c0 => ?_, fun _ => ?_⟩
        · simp (disch := omega) only [fa_lit, nI_eq] at c0
          have hn : ∀ u, t ≤ u → u < 12 → gB l z m s u = none := by
            intro u h1 h2
            unfold gB
            refine if_neg (fun q => ?_)
            have e := hTb u h2
            rw [q.1, q.2] at e
            have e2 : (T / 2 ^ t).testBit (u - t) = true := by
              rw [Nat.testBit_div_two_pow, show u - t + t = u by omega]
              exact e
            rw [c0] at e2
            simp at e2
          have e12 := pB_none hn (by omega)
          rw [← e12] at hB ⊢
          exact out B hB
        · refine wh_hasBit hT (by omega) ?_
          rw [bI_0]
          have eT := hTb t (by omega)
          refine ⟨fun hb y e => ?_, fun hb => ?_⟩
          · subst e
            rw [nI_1]
            have hg : gB l z m s t = none := by
              unfold gB
              refine if_neg (fun q => ?_)
              rw [hb, q.1, q.2] at eT
              cases eT
            have ep : pB l z m s (t + 1) = pB l z m s t := by rw [pB_t, hg]; simp
            rw [← ep] at hB ⊢
            exact ih (t + 1) (by omega) B hB
          · have hb : T.testBit t = true := by
              cases hx : T.testBit t
              · exact absurd hx hb
              · rfl
            rw [hb] at eT
            have hg : gB l z m s t = some (mv m (t + (1 + s)) t) := by
              unfold gB
              refine if_pos ?_
              have := eT.symm
              rw [Bool.and_eq_true] at this
              exact this
            have ep : pB l z m s (t + 1) = pB l z m s t ++ [mv m (t + (1 + s)) t] := by rw [pB_t, hg]; rfl
            have hlen : (pB l z m s t).length + 1 ≤ 12 := by
              have a := pB_12 (l := l) (z := z) (s := s) (t := t + 1) hm hz hs (by omega)
              rw [ep, List.length_append, List.length_singleton] at a
              exact a
            refine ⟨fun c3 => ?_, fun _ => ?_⟩
            · simp (disch := omega) only [fa_lit, nI_leI] at c3
              omega
            · rw [nI_add]
              refine wh_moved (by omega) (by omega) ?_
              refine wh_rankOf ?_ ?_
              · have hx : mv m (t + (1 + s)) t < 2 ^ 31 := by
                  refine Nat.lt_trans (lt13 (fun i hi => ?_)) (show 8192 < 2 ^ 31 by decide)
                  rw [tb_mv, tb_big m1 hi]
                  have e1 : i ≠ t := by omega
                  simp [e1]
                exact hx
              · refine ⟨pk_in (pB l z m s t).length 12 (by omega), fun y5 e5 y6 e6 => ?_⟩
                subst e5 e6
                rw [nI_1, nI_1, nI_clamp (by omega), sA_sF]
                have hB2 := okB_push (x := mv m (t + (1 + s)) t) hB
                have := ih (t + 1) (by omega) _ (by rw [ep]; exact hB2)
                rw [ep, List.length_append, List.length_singleton] at this
                exact this
  have outer : ∀ k s, s + k = 12 → ∀ B, okB B (pB l z m s 0) → J6 (nI (pB l z m s 0).length) (nI (1 + s)) (sF w 7 B) := by
    intro k
    induction k with
    | zero =>
      intro s hs B hB
      obtain rfl : s = 12 := by omega
      exact h6 _ _ _ ⟨fun _ => h B hB, fun q => absurd (by decide) q⟩
    | succ k ih =>
      intro s hs B hB
      refine h6 _ _ _ ⟨fun c => ?_, fun _ => ?_⟩
      · simp (disch := omega) only [fa_lit, nI_ltI] at c
        omega
      · refine wh_hasBit (by omega) (by omega) ?_
        rw [bI_0]
        have nxt := ih (s + 1) (by omega)
        refine ⟨fun hb => ?_, fun hb => ?_⟩
        · exact inner s (by omega) nxt 0 (by omega) (fun t ht => by rw [hb]; simp) 12 0 (by omega) B hB
        · refine wh_targets (by omega) (by omega) ?_
          refine inner s (by omega) nxt _ ?_ (fun t ht => ?_) 12 0 (by omega) B hB
          · refine Nat.lt_trans (lt13 (fun i hi => ?_)) (show 8192 < 2 ^ 31 by decide)
            rw [tb_tgs, tb_big m1 (by omega)]
            rfl
          · cases hx : z.testBit (1 + s)
            · exact absurd hx hb
            · rfl
  have := outer 12 0 (by omega) (gA w 7) (fun i hi => absurd hi (by simp [pB]))
  rw [sF_self] at this
  exact this

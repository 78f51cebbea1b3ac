/-! the law: each call answers as the model does -/
theorem cmp_rf (x : Int64) : lg_cmp x x = 0 := by
  unfold lg_cmp
  rw [if_neg (Int64.lt_irrefl : ¬ x < x), if_pos rfl]
theorem go_N {w : Wd} {S : Sy} {a : An} {b b' : Nat} {x5 : Int32} {J : Int32 → Wd → Prop} {M : Wd → (Int32 → Wd → Prop) → Prop} (hS : S.ok b) (hA : okA b' a) (hI : TI w S) (hm : ∀ w' P, TI w' S → MN P a → M w' P) (nx : ∀ S' w', S'.ok b' → bufOK S' → CI w' S' → TI w' S' → J (x5 + 6) w') : CN (fun r1 w1 => M (mx pC w w1) (fun r2 w2 => (r1 = r2 → (∀ y1 : Int32, y1 = x5 + 6 → (J y1 (mx pM (mx pC w w1) w2)))) ∧ (¬ r1 = r2 → (False)))) a := by
  intro w1 hC1
  refine hm _ _ (TI.eq hS hI (eqM_mxC w w1)) (fun w2 hT2 => ⟨fun _ y e => ?_, fun c => c rfl⟩)
  subst e
  exact nx _ _ hA.1 hA.2 (hC1.eq ((eqC_mxC w w1).tr (eqC_mxM _ w2))) (TI.eq hA.1 hT2 (eqM_mxM _ w2))
theorem go_L {w : Wd} {S : Sy} {a : An} {b b' : Nat} {x5 : Int32} {J : Int32 → Wd → Prop} {M : Wd → (Int32 → Wd → Prop) → Prop} (hS : S.ok b) (hA : okA b' a) (hI : TI w S) (hm : ∀ w' P, TI w' S → ML P a → M w' P) (nx : ∀ S' w', S'.ok b' → bufOK S' → CI w' S' → TI w' S' → J (x5 + 6) w') : CL (fun r3 w3 => M (mx pC w w3) (fun r4 w4 => wp_X9_thrown (mx pM (mx pC w w3) w4) (fun r5 w5 => (r5 = r3 → ((r3 = 0 → (((lg_cmp (gL (mx pM (mx pM (mx pC w w3) w4) w5) 25 0) r4.toInt64) = 0 → (∀ y3 : Int32, y3 = x5 + 6 → (J y3 (mx pM (mx pM (mx pC w w3) w4) w5)))) ∧ (¬ (lg_cmp (gL (mx pM (mx pM (mx pC w w3) w4) w5) 25 0) r4.toInt64) = 0 → (False)))) ∧ (¬ r3 = 0 → (∀ y2 : Int32, y2 = x5 + 6 → (J y2 (mx pM (mx pM (mx pC w w3) w4) w5)))))) ∧ (¬ r5 = r3 → (False))))) a := by
  intro w3 hC3 hv
  refine hm _ _ (TI.eq hS hI (eqM_mxC w w3)) (fun w4 r4 hT4 h4 h4v => ?_)
  have e5 : gI (mx pM (mx pC w w3) w4) 15 0 = a.1 := by
    rw [gI_mx, if_pos (pM_y (by omega) (by omega))]
    exact h4
  have hC5 : CI (mx pM (mx pM (mx pC w w3) w4) (mx pM (mx pC w w3) w4)) a.2.2 := hC3.eq (((eqC_mxC w w3).tr (eqC_mxM _ w4)).tr (eqC_mxM _ _))
  have hT5 : TI (mx pM (mx pM (mx pC w w3) w4) (mx pM (mx pC w w3) w4)) a.2.2 := TI.eq hA.1 (TI.eq hA.1 hT4 (eqM_mxM _ w4)) (eqM_mxM _ _)
  have fin : ∀ y : Int32, y = x5 + 6 → J y (mx pM (mx pM (mx pC w w3) w4) (mx pM (mx pC w w3) w4)) := fun y e => by
    subst e
    exact nx _ _ hA.1 hA.2 hC5 hT5
  unfold wp_X9_thrown
  refine ⟨fun _ => ⟨fun c => ⟨fun _ => fin, fun c2 => c2 ?_⟩, fun _ => fin⟩, fun c => c e5⟩
  rw [h4v c, gL_mx, if_neg (pM_n (by omega)), gL_mx, if_neg (pM_n (by omega)), gL_mx, if_pos (pC_y (by omega)), hv c]
  exact cmp_rf _

theorem law_true {xs : Nat → Int32} {L : Nat} (hL : L ≤ 3072) : ∀ w, St0 w → wp_law xs L w := by
  intro w hw
  unfold wp_law
  intro J hJ
  have key : ∀ k t, t + k = 513 → ∀ S w, S.ok (60 * t) → bufOK S → CI w S → TI w S → J (nI (6 * t)) w := by
    intro k
    induction k with
    | zero =>
      intro t ht S w hS hB hC hI
      refine hJ _ _ ⟨fun _ => trivial, fun c => ?_⟩
      have e : (nI L - 6).toInt = (L : Int) - 6 := pk_sub_toInt (a := L) (b := 6) (by omega) (by omega)
      rw [fa_lt, e, nI_toInt (by omega)] at c
      omega
    | succ k ih =>
      intro t ht S w hS hB hC hI
      refine hJ _ _ ⟨fun _ => trivial, fun c => ?_⟩
      have e : (nI L - 6).toInt = (L : Int) - 6 := pk_sub_toInt (a := L) (b := 6) (by omega) (by omega)
      rw [fa_lt, e, nI_toInt (by omega)] at c
      have hb : 60 * t < 2 ^ 30 := by omega
      have nx : ∀ S' w', S'.ok (60 * t + 60) → bufOK S' → CI w' S' → TI w' S' → J (nI (6 * t) + 6) w' := fun S' w' h1 h2 h3 h4 => by
        rw [show nI (6 * t) + 6 = nI (6 * t + 6) from nI_pL _ 6]
        exact ih (t + 1) (by omega) S' w' h1 h2 h3 h4
      clear ih hJ
      have v1 : vp_in (nI (6 * t) + 1) L := by
        rw [show nI (6 * t) + 1 = nI (6 * t + 1) from nI_pL _ 1]
        exact pk_in (6 * t + 1) L (by omega)
      have v2 : vp_in (nI (6 * t) + 2) L := by
        rw [show nI (6 * t) + 2 = nI (6 * t + 2) from nI_pL _ 2]
        exact pk_in (6 * t + 2) L (by omega)
      have v3 : vp_in (nI (6 * t) + 3) L := by
        rw [show nI (6 * t) + 3 = nI (6 * t + 3) from nI_pL _ 3]
        exact pk_in (6 * t + 3) L (by omega)
      have v4 : vp_in (nI (6 * t) + 4) L := by
        rw [show nI (6 * t) + 4 = nI (6 * t + 4) from nI_pL _ 4]
        exact pk_in (6 * t + 4) L (by omega)
      have v5 : vp_in (nI (6 * t) + 5) L := by
        rw [show nI (6 * t) + 5 = nI (6 * t + 5) from nI_pL _ 5]
        exact pk_in (6 * t + 5) L (by omega)
      refine ⟨pk_in (6 * t) L (by omega), ?_⟩
      generalize vp_in (nI (6 * t) + 1) L = V1 at v1 ⊢
      generalize vp_in (nI (6 * t) + 2) L = V2 at v2 ⊢
      generalize vp_in (nI (6 * t) + 3) L = V3 at v3 ⊢
      generalize vp_in (nI (6 * t) + 4) L = V4 at v4 ⊢
      generalize vp_in (nI (6 * t) + 5) L = V5 at v5 ⊢
      generalize xs (nI (6 * t) + 1).toNatClampNeg = a1
      generalize xs (nI (6 * t) + 2).toNatClampNeg = a2
      generalize xs (nI (6 * t) + 3).toNatClampNeg = a3
      generalize xs (nI (6 * t) + 4).toNatClampNeg = a4
      generalize xs (nI (6 * t) + 5).toNatClampNeg = a5
      generalize xs (nI (6 * t)).toNatClampNeg &&& 31 = op
      generalize nI (6 * t) = x5 at nx ⊢
      refine ⟨fun _ => ?_, fun _ => ?_⟩
      · exact ⟨v1, v2, v3, v4, v5, cc_append hS hC (go_N (M := fun w' P => V1 ∧ V2 ∧ V3 ∧ V4 ∧ V5 ∧ wp_X9_append w' a1 a2 a3 a4 a5 P) hS (okA_append hS hB) hI (fun w' P hI' h => ⟨v1, v2, v3, v4, v5, mm_append hS hI' h⟩) nx)⟩
      refine ⟨fun _ => ?_, fun _ => ?_⟩
      · exact ⟨v1, cc_parse hS hC (go_L (M := fun w' P => V1 ∧ wp_X9_parse w' a1 P) hS (okA_parse hS hB) hI (fun w' P hI' h => ⟨v1, mm_parse hS hB hI' h⟩) nx)⟩
      refine ⟨fun _ => ?_, fun _ => ?_⟩
      · exact ⟨v1, cc_size hS hC (go_L (M := fun w' P => V1 ∧ wp_X9_size w' a1 P) hS (okA_same hS hB (if_22 rfl rfl)) hI (fun w' P hI' h => ⟨v1, mm_size hS hI' h⟩) nx)⟩
      refine ⟨fun _ => ?_, fun _ => ?_⟩
      · exact ⟨v1, v2, cc_ladder hS hC (go_L (M := fun w' P => V1 ∧ V2 ∧ wp_X9_ladder w' a1 a2 P) hS (okA_same hS hB (if_22 rfl (if_22 rfl rfl))) hI (fun w' P hI' h => ⟨v1, v2, mm_ladder hS hI' h⟩) nx)⟩
      refine ⟨fun _ => ?_, fun _ => ?_⟩
      · exact ⟨v1, v2, cc_set hS hC (go_L (M := fun w' P => V1 ∧ V2 ∧ wp_X9_set w' a1 a2 P) hS (okA_same hS hB (if_22 rfl (if_22 rfl rfl))) hI (fun w' P hI' h => ⟨v1, v2, mm_set hS hI' h⟩) nx)⟩
      refine ⟨fun _ => ?_, fun _ => ?_⟩
      · exact ⟨v1, v2, cc_player hS hC (go_L (M := fun w' P => V1 ∧ V2 ∧ wp_X9_player w' a1 a2 P) hS (okA_same hS hB (if_22 rfl (if_22 rfl rfl))) hI (fun w' P hI' h => ⟨v1, v2, mm_player hS hI' h⟩) nx)⟩
      refine ⟨fun _ => ?_, fun _ => ?_⟩
      · exact ⟨v1, v2, cc_act hS hb hC (go_L (M := fun w' P => V1 ∧ V2 ∧ wp_X9_act w' a1 a2 P) hS (okA_same hS hB (if_22 rfl rfl)) hI (fun w' P hI' h => ⟨v1, v2, mm_act hS hb hI' h⟩) nx)⟩
      refine ⟨fun _ => ?_, fun _ => ?_⟩
      · exact ⟨v1, v2, cc_valueOf hS hC (go_L (M := fun w' P => V1 ∧ V2 ∧ wp_X9_valueOf w' a1 a2 P) hS (okA_same hS hB (if_22 rfl (if_22 rfl rfl))) hI (fun w' P hI' h => ⟨v1, v2, mm_valueOf hS hI' h⟩) nx)⟩
      refine ⟨fun _ => ?_, fun _ => ?_⟩
      · exact cc_sum hS hC (go_N (M := fun w' P => wp_X9_sum w' P) hS (okA_same hS hB rfl) hI (fun w' P hI' h => mm_sum hS hI' h) nx)
      refine ⟨fun _ => ?_, fun _ => ?_⟩
      · exact ⟨v1, cc_stepsOn hS hC (go_L (M := fun w' P => V1 ∧ wp_X9_stepsOn w' a1 P) hS (okA_same hS hB (if_22 rfl rfl)) hI (fun w' P hI' h => ⟨v1, mm_stepsOn hS hI' h⟩) nx)⟩
      refine ⟨fun _ => ?_, fun _ => ?_⟩
      · exact ⟨v1, cc_longest hS hC (go_L (M := fun w' P => V1 ∧ wp_X9_longest w' a1 P) hS (okA_same hS hB (if_22 rfl rfl)) hI (fun w' P hI' h => ⟨v1, mm_longest hS hI' h⟩) nx)⟩
      refine ⟨fun _ => ?_, fun _ => ?_⟩
      · exact ⟨v1, cc_positions hS hC (go_L (M := fun w' P => V1 ∧ wp_X9_positions w' a1 P) hS (okA_same hS hB (if_22 rfl rfl)) hI (fun w' P hI' h => ⟨v1, mm_positions hS hI' h⟩) nx)⟩
      refine ⟨fun _ => ?_, fun _ => ?_⟩
      · refine ⟨v1, cc_meanValue hS hC (fun c => ⟨v1, mm_meanValue hS (TI.eq hS hI (eqM_mxC w w)) (fun _ w4 hT4 h4 => ?_) (fun l w4 hl e _ _ => absurd c (e ▸ ladN hS.hg.1 hl))⟩) (fun l w3 hl e c hC3 hD3 => ⟨v1, mm_meanValue hS (TI.eq hS hI (eqM_mxC w w3)) (fun q => absurd q c) (fun l2 w4 hl2 e2 hT4 h4 => ?_)⟩)⟩
        · have e5 : gI (mx pM (mx pC w w) w4) 15 0 = 1 := by
            rw [gI_mx, if_pos (pM_y (by omega) (by omega))]
            exact h4
          have hC5 : CI (mx pM (mx pM (mx pC w w) w4) (mx pM (mx pC w w) w4)) S := hC.eq (((eqC_mxC w w).tr (eqC_mxM _ w4)).tr (eqC_mxM _ _))
          have hT5 : TI (mx pM (mx pM (mx pC w w) w4) (mx pM (mx pC w w) w4)) S := TI.eq hS (TI.eq hS hT4 (eqM_mxM _ w4)) (eqM_mxM _ _)
          unfold wp_X9_thrown
          refine ⟨fun _ => ⟨fun c => absurd c (by decide), fun _ y e => ?_⟩, fun c => c e5⟩
          subst e
          exact nx _ _ (hS.up (by omega)) hB hC5 hT5
        · subst e
          obtain rfl := nI_inj (Nat.lt_of_lt_of_le hl (Nat.le_trans hS.hg.1 (by decide))) (Nat.lt_of_lt_of_le hl2 (Nat.le_trans hS.hg.1 (by decide))) e2
          have e5 : gI (mx pM (mx pC w w3) w4) 15 0 = 0 := by
            rw [gI_mx, if_pos (pM_y (by omega) (by omega))]
            exact h4
          have hC5 : CI (mx pM (mx pM (mx pC w w3) w4) (mx pM (mx pC w w3) w4)) S := hC3.eq (((eqC_mxC w w3).tr (eqC_mxM _ w4)).tr (eqC_mxM _ _))
          have hT5 : TI (mx pM (mx pM (mx pC w w3) w4) (mx pM (mx pC w w3) w4)) S := TI.eq hS (TI.eq hS hT4 (eqM_mxM _ w4)) (eqM_mxM _ _)
          have eD : gD (mx pM (mx pM (mx pC w w3) w4) (mx pM (mx pC w w3) w4)) 26 0 = mnD (S.g.lk l) (S.g.sz l) (S.g.co l) := by
            rw [gD_mx, if_neg (pM_n (by omega)), gD_mx, if_neg (pM_n (by omega)), gD_mx, if_pos (pC_y (by omega)), hD3]
          have cz := fp_cmp (mnD_ok (l := S.g.lk l) (S.g.pos hS.hg hl) (hS.hg.2 l hl).2.2.2.2.1)
          unfold wp_X9_thrown
          refine ⟨fun _ => ⟨fun _ => ⟨fun _ y e => ?_, fun c2 => absurd ?_ c2⟩, fun c2 => absurd rfl c2⟩, fun c2 => c2 e5⟩
          · subst e
            exact nx _ _ (hS.up (by omega)) hB hC5 hT5
          · rw [eD]
            exact cz
      refine ⟨fun _ => ?_, fun _ => ?_⟩
      · exact cc_isRight hS hC (go_N (M := fun w' P => wp_X9_isRight w' P) hS (okA_same hS hB rfl) hI (fun w' P hI' h => mm_isRight hS hI' h) nx)
      refine ⟨fun _ => ?_, fun _ => ?_⟩
      · exact cc_allowed hS hC (go_N (M := fun w' P => wp_X9_allowed w' P) hS (okA_same hS hB rfl) hI (fun w' P hI' h => mm_allowed hS hI' h) nx)
      refine ⟨fun _ => ?_, fun _ => ?_⟩
      · exact ⟨v1, v2, cc_choice hS hC (go_L (M := fun w' P => V1 ∧ V2 ∧ wp_X9_choice w' a1 a2 P) hS (okA_same hS hB (if_22 rfl (if_22 rfl rfl))) hI (fun w' P hI' h => ⟨v1, v2, mm_choice hS hI' h⟩) nx)⟩
      refine ⟨fun _ => ?_, fun _ => ?_⟩
      · exact cc_best hS hC (go_N (M := fun w' P => wp_X9_best w' P) hS (okA_same hS hB rfl) hI (fun w' P hI' h => mm_best hS hI' h) nx)
      refine ⟨fun _ => ?_, fun _ => ?_⟩
      · exact ⟨v1, v2, v3, cc_whyNotStep hS hC (go_N (M := fun w' P => V1 ∧ V2 ∧ V3 ∧ wp_X9_whyNotStep w' a1 a2 a3 P) hS (okA_same hS hB rfl) hI (fun w' P hI' h => ⟨v1, v2, v3, mm_whyNotStep hS hI' h⟩) nx)⟩
      refine ⟨fun _ => ?_, fun _ => ?_⟩
      · exact ⟨v1, cc_whyNotClaim hS hC (go_N (M := fun w' P => V1 ∧ wp_X9_whyNotClaim w' a1 P) hS (okA_same hS hB rfl) hI (fun w' P hI' h => ⟨v1, mm_whyNotClaim hS hI' h⟩) nx)⟩
      refine ⟨fun _ => ?_, fun _ => ?_⟩
      · exact ⟨v1, v2, cc_whyNotLock hS hC (go_N (M := fun w' P => V1 ∧ V2 ∧ wp_X9_whyNotLock w' a1 a2 P) hS (okA_same hS hB rfl) hI (fun w' P hI' h => ⟨v1, v2, mm_whyNotLock hS hI' h⟩) nx)⟩
      refine ⟨fun _ => ?_, fun _ => ?_⟩
      · exact cc_whyNotBack hS hb hC (go_N (M := fun w' P => wp_X9_whyNotBack w' P) hS (okA_same hS hB rfl) hI (fun w' P hI' h => mm_whyNotBack hS hb hI' h) nx)
      refine ⟨fun _ => ?_, fun _ => ?_⟩
      · exact ⟨v1, v2, v3, cc_step hS hb hC (go_L (M := fun w' P => V1 ∧ V2 ∧ V3 ∧ wp_X9_step w' a1 a2 a3 P) hS (okA_step hS hB) hI (fun w' P hI' h => ⟨v1, v2, v3, mm_step hS hb hI' h⟩) nx)⟩
      refine ⟨fun _ => ?_, fun _ => ?_⟩
      · exact ⟨v1, cc_claim hS hb hC (go_L (M := fun w' P => V1 ∧ wp_X9_claim w' a1 P) hS (okA_claim hS hB) hI (fun w' P hI' h => ⟨v1, mm_claim hS hb hI' h⟩) nx)⟩
      refine ⟨fun _ => ?_, fun _ => ?_⟩
      · exact ⟨v1, v2, cc_lock hS hb hC (go_L (M := fun w' P => V1 ∧ V2 ∧ wp_X9_lock w' a1 a2 P) hS (okA_lock hS hB) hI (fun w' P hI' h => ⟨v1, v2, mm_lock hS hb hI' h⟩) nx)⟩
      refine ⟨fun _ => ?_, fun _ => ?_⟩
      · exact cc_back hS hb hC (go_L (M := fun w' P => wp_X9_back w' P) hS (okA_back hS hb hB) hI (fun w' P hI' h => mm_back hS hb hI' h) nx)
      refine ⟨fun _ => ?_, fun _ => ?_⟩
      · exact cc_pass hS hb hC (go_L (M := fun w' P => wp_X9_pass w' P) hS (okA_pass hS hB) hI (fun w' P hI' h => mm_pass hS hb hI' h) nx)
      refine ⟨fun _ => ?_, fun _ => ?_⟩
      · exact ⟨v1, cc_play hS (by omega) hC (go_L (M := fun w' P => V1 ∧ wp_X9_play w' a1 P) hS (okA_play hS hB) hI (fun w' P hI' h => ⟨v1, mm_play hS (by omega) hI' h⟩) nx)⟩
      refine ⟨fun _ => ?_, fun _ => ?_⟩
      · exact cc_undo hS hC (go_N (M := fun w' P => wp_X9_undo w' P) hS (okA_undo hS hB) hI (fun w' P hI' h => mm_undo hS hI' h) nx)
      refine ⟨fun _ => ?_, fun _ => ?_⟩
      · exact ⟨v1, cc_save hS hC (go_N (M := fun w' P => V1 ∧ wp_X9_saveSnapshot w' a1 P) hS (okA_save hS hB) hI (fun w' P hI' h => ⟨v1, mm_save hS hI' h⟩) nx)⟩
      refine ⟨fun _ => ?_, fun _ => ?_⟩
      · exact ⟨v1, cc_restore hS hC (go_N (M := fun w' P => V1 ∧ wp_X9_restoreSnapshot w' a1 P) hS (okA_restore hS hB) hI (fun w' P hI' h => ⟨v1, mm_restore hS hI' h⟩) nx)⟩
      intro y e
      subst e
      exact nx S w (hS.up (by omega)) hB hC hI
  have := key 513 0 (Nat.zero_add _) S00 w S00_ok (fun i hi => absurd hi (Nat.not_lt_zero i)) (S00_C hw) (S00_T hw)
  exact this

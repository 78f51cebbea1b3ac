/-! the model: what acts change -/
theorem TD.of0 {w : Wd} {g : Gm} {r : Rs} (h1 : gA w 18 0 = nI g.n) (h2 : ∀ l, l < g.n → gA w 18 (1 + 7 * l + 0) = nI (g.top l) ∧ gA w 18 (1 + 7 * l + 1) = nI (g.cn l) ∧ gA w 18 (1 + 7 * l + 2) = nI (g.co l) ∧ gA w 18 (1 + 7 * l + 3) = nI (g.lk l) ∧ gA w 18 (1 + 7 * l + 4) = nI (g.sz l) ∧ gA w 18 (1 + 7 * l + 5) = r.ow l ∧ gA w 18 (1 + 7 * l + 6) = nI (r.la l)) (h3 : ∀ p, p < 2 → ∀ k, k < 3 → gA w 18 (43 + 6 * p + k) = nI (r.tk (3 * p + k)) ∧ gA w 18 (43 + 6 * p + (3 + k)) = r.ct (3 * p + k)) (h4 : gA w 18 55 = nI r.tu) (h5 : gA w 18 56 = nI r.ac) (h6 : gA w 18 57 = r.bn.1) (h7 : r.bn.1 ≠ -1 → gA w 18 58 = r.bn.2.1 ∧ gA w 18 59 = r.bn.2.2) (h8 : ∀ i, i < 80 → i / 5 < r.ac → gA w 18 (60 + i) = r.lg i) : TD w 18 0 g r := by
  unfold TD
  simp only [Nat.zero_add]
  exact ⟨h1, h2, h3, h4, h5, h6, h7, h8⟩
theorem TD.to0 {w : Wd} {g : Gm} {r : Rs} (h : TD w 18 0 g r) : gA w 18 0 = nI g.n ∧ ∀ l, l < g.n → gA w 18 (1 + 7 * l + 0) = nI (g.top l) ∧ gA w 18 (1 + 7 * l + 1) = nI (g.cn l) ∧ gA w 18 (1 + 7 * l + 2) = nI (g.co l) ∧ gA w 18 (1 + 7 * l + 3) = nI (g.lk l) ∧ gA w 18 (1 + 7 * l + 4) = nI (g.sz l) ∧ gA w 18 (1 + 7 * l + 5) = r.ow l ∧ gA w 18 (1 + 7 * l + 6) = nI (r.la l) := by
  unfold TD at h
  simp only [Nat.zero_add] at h
  exact ⟨h.1, h.2.1⟩
/-- an element at another place -/
theorem g18 {w : Wd} {i j : Nat} {x v : Int32} (h : j ≠ i) (e : gA w 18 j = v) : gA (sA w 18 i x) 18 j = v := by
  rw [gA_sA, if_neg (fun c => h c.2)]
  exact e
theorem g18s {w : Wd} {i j : Nat} {x : Int32} (h : j = i) : gA (sA w 18 i x) 18 j = x := by
  rw [gA_sA, if_pos ⟨rfl, h⟩]
theorem TD.uct {w : Wd} {g : Gm} {r : Rs} {k : Nat} {a v : Int32} (h : TD w 18 0 g r) (hn : g.n ≤ 6) (ht : r.tu ≤ 1) (hk : k < 3) (hv : v = r.ct (3 * r.tu + k) + a) : TD (sA w 18 (43 + 6 * r.tu + (3 + k)) v) 18 0 g (r.act k a) := by
  obtain ⟨h1, h2⟩ := h.to0
  obtain ⟨_, h3, h4, h5, h6, h7, h8⟩ := h.z
  refine TD.of0 (g18 (by omega) h1) (fun l hl => ?_) (fun p hp j hj => ⟨g18 (by omega) (h3 p hp j hj).1, ?_⟩) (g18 (by omega) h4) (g18 (by omega) h5) (g18 (by omega) h6) (fun c => ⟨g18 (by omega) (h7 c).1, g18 (by omega) (h7 c).2⟩) (fun i hi ha => g18 (by omega) (h8 i hi ha))
  · obtain ⟨a1, a2, a3, a4, a5, a6, a7⟩ := h2 l hl
    exact ⟨g18 (by omega) a1, g18 (by omega) a2, g18 (by omega) a3, g18 (by omega) a4, g18 (by omega) a5, g18 (by omega) a6, g18 (by omega) a7⟩
  · show _ = if 3 * p + j = 3 * r.tu + k then r.ct (3 * p + j) + a else r.ct (3 * p + j)
    by_cases q : 3 * p + j = 3 * r.tu + k
    · rw [if_pos q, g18s (by omega), hv, q]
    · rw [if_neg q]
      exact g18 (by omega) (h3 p hp j hj).2
theorem TD.utk {w : Wd} {g : Gm} {r : Rs} {k : Nat} {v : Int32} (h : TD w 18 0 g r) (hn : g.n ≤ 6) (ht : r.tu ≤ 1) (hk : k < 3) (hv : v = nI (r.tk (3 * r.tu + k) - 1)) : TD (sA w 18 (43 + 6 * r.tu + k) v) 18 0 g (r.dtk k) := by
  obtain ⟨h1, h2⟩ := h.to0
  obtain ⟨_, h3, h4, h5, h6, h7, h8⟩ := h.z
  refine TD.of0 (g18 (by omega) h1) (fun l hl => ?_) (fun p hp j hj => ⟨?_, g18 (by omega) (h3 p hp j hj).2⟩) (g18 (by omega) h4) (g18 (by omega) h5) (g18 (by omega) h6) (fun c => ⟨g18 (by omega) (h7 c).1, g18 (by omega) (h7 c).2⟩) (fun i hi ha => g18 (by omega) (h8 i hi ha))
  · obtain ⟨a1, a2, a3, a4, a5, a6, a7⟩ := h2 l hl
    exact ⟨g18 (by omega) a1, g18 (by omega) a2, g18 (by omega) a3, g18 (by omega) a4, g18 (by omega) a5, g18 (by omega) a6, g18 (by omega) a7⟩
  · show _ = nI (if 3 * p + j = 3 * r.tu + k then r.tk (3 * p + j) - 1 else r.tk (3 * p + j))
    by_cases q : 3 * p + j = 3 * r.tu + k
    · rw [if_pos q, g18s (by omega), hv, q]
    · rw [if_neg q]
      exact g18 (by omega) (h3 p hp j hj).1
theorem TD.uco {w : Wd} {g : Gm} {r : Rs} {l v : Nat} (h : TD w 18 0 g r) (hn : g.n ≤ 6) (hl : l < g.n) : TD (sA w 18 (1 + 7 * l + 2) (nI v)) 18 0 (g.sco l v) r := by
  obtain ⟨h1, h2⟩ := h.to0
  obtain ⟨_, h3, h4, h5, h6, h7, h8⟩ := h.z
  refine TD.of0 (g18 (by omega) h1) (fun k hk => ?_) (fun p hp j hj => ⟨g18 (by omega) (h3 p hp j hj).1, g18 (by omega) (h3 p hp j hj).2⟩) (g18 (by omega) h4) (g18 (by omega) h5) (g18 (by omega) h6) (fun c => ⟨g18 (by omega) (h7 c).1, g18 (by omega) (h7 c).2⟩) (fun i hi ha => g18 (by omega) (h8 i hi ha))
  obtain ⟨a1, a2, a3, a4, a5, a6, a7⟩ := h2 k hk
  refine ⟨g18 (by omega) a1, g18 (by omega) a2, ?_, g18 (by omega) a4, g18 (by omega) a5, g18 (by omega) a6, g18 (by omega) a7⟩
  show _ = nI (if k = l then v else g.co k)
  by_cases q : k = l
  · rw [if_pos q, g18s (by omega)]
  · rw [if_neg q]
    exact g18 (by omega) a3
theorem TD.ulk {w : Wd} {g : Gm} {r : Rs} {l v : Nat} (h : TD w 18 0 g r) (hn : g.n ≤ 6) (hl : l < g.n) : TD (sA w 18 (1 + 7 * l + 3) (nI v)) 18 0 (g.slk l v) r := by
  obtain ⟨h1, h2⟩ := h.to0
  obtain ⟨_, h3, h4, h5, h6, h7, h8⟩ := h.z
  refine TD.of0 (g18 (by omega) h1) (fun k hk => ?_) (fun p hp j hj => ⟨g18 (by omega) (h3 p hp j hj).1, g18 (by omega) (h3 p hp j hj).2⟩) (g18 (by omega) h4) (g18 (by omega) h5) (g18 (by omega) h6) (fun c => ⟨g18 (by omega) (h7 c).1, g18 (by omega) (h7 c).2⟩) (fun i hi ha => g18 (by omega) (h8 i hi ha))
  obtain ⟨a1, a2, a3, a4, a5, a6, a7⟩ := h2 k hk
  refine ⟨g18 (by omega) a1, g18 (by omega) a2, g18 (by omega) a3, ?_, g18 (by omega) a5, g18 (by omega) a6, g18 (by omega) a7⟩
  show _ = nI (if k = l then v else g.lk k)
  by_cases q : k = l
  · rw [if_pos q, g18s (by omega)]
  · rw [if_neg q]
    exact g18 (by omega) a4
theorem TD.ucl {w : Wd} {g : Gm} {r : Rs} {l : Nat} {p : Int32} (h : TD w 18 0 g r) (hn : g.n ≤ 6) (hl : l < g.n) : TD (sA (sA w 18 (1 + 7 * l + 5) p) 18 (1 + 7 * l + 6) 3) 18 0 g (r.clm l p) := by
  obtain ⟨h1, h2⟩ := h.to0
  obtain ⟨_, h3, h4, h5, h6, h7, h8⟩ := h.z
  have gg : ∀ {j : Nat} {v : Int32}, j ≠ 1 + 7 * l + 5 → j ≠ 1 + 7 * l + 6 → gA w 18 j = v → gA (sA (sA w 18 (1 + 7 * l + 5) p) 18 (1 + 7 * l + 6) 3) 18 j = v := fun q1 q2 e => g18 q2 (g18 q1 e)
  refine TD.of0 (gg (by omega) (by omega) h1) (fun k hk => ?_) (fun p hp j hj => ⟨gg (by omega) (by omega) (h3 p hp j hj).1, gg (by omega) (by omega) (h3 p hp j hj).2⟩) (gg (by omega) (by omega) h4) (gg (by omega) (by omega) h5) (gg (by omega) (by omega) h6) (fun c => ⟨gg (by omega) (by omega) (h7 c).1, gg (by omega) (by omega) (h7 c).2⟩) (fun i hi ha => gg (by omega) (by omega) (h8 i hi ha))
  obtain ⟨a1, a2, a3, a4, a5, a6, a7⟩ := h2 k hk
  refine ⟨gg (by omega) (by omega) a1, gg (by omega) (by omega) a2, gg (by omega) (by omega) a3, gg (by omega) (by omega) a4, gg (by omega) (by omega) a5, ?_, ?_⟩
  · show _ = if k = l then p else r.ow k
    by_cases q : k = l
    · rw [if_pos q]
      exact g18 (by omega) (g18s (by omega))
    · rw [if_neg q]
      exact gg (by omega) (by omega) a6
  · show _ = nI (if k = l then 3 else r.la k)
    by_cases q : k = l
    · rw [if_pos q, g18s (by omega)]
      rfl
    · rw [if_neg q]
      exact gg (by omega) (by omega) a7
theorem TD.ubn {w : Wd} {g : Gm} {r : Rs} {a b c : Int32} (h : TD w 18 0 g r) (hn : g.n ≤ 6) : TD (sA (sA (sA w 18 57 a) 18 58 b) 18 59 c) 18 0 g (r.sbn a b c) := by
  obtain ⟨h1, h2⟩ := h.to0
  obtain ⟨_, h3, h4, h5, h6, h7, h8⟩ := h.z
  have gg : ∀ {j : Nat} {v : Int32}, (j < 57 ∨ 59 < j) → gA w 18 j = v → gA (sA (sA (sA w 18 57 a) 18 58 b) 18 59 c) 18 j = v := fun q e => g18 (by omega) (g18 (by omega) (g18 (by omega) e))
  refine TD.of0 (gg (by omega) h1) (fun k hk => ?_) (fun p hp j hj => ⟨gg (by omega) (h3 p hp j hj).1, gg (by omega) (h3 p hp j hj).2⟩) (gg (by omega) h4) (gg (by omega) h5) (g18 (by omega) (g18 (by omega) (g18s rfl))) (fun _ => ⟨g18 (by omega) (g18s rfl), g18s rfl⟩) (fun i hi ha => gg (by omega) (h8 i hi ha))
  obtain ⟨a1, a2, a3, a4, a5, a6, a7⟩ := h2 k hk
  exact ⟨gg (by omega) a1, gg (by omega) a2, gg (by omega) a3, gg (by omega) a4, gg (by omega) a5, gg (by omega) a6, gg (by omega) a7⟩
/-- only the model's state that is now changed -/
def FrA (w w' : Wd) : Prop := (∀ o k, gI w' o k = gI w o k) ∧ (∀ o i, o ≠ 18 → gA w' o i = gA w o i)
theorem FrA.rf (w : Wd) : FrA w w := ⟨fun _ _ => rfl, fun _ _ _ => rfl⟩
theorem FrA.tr {a b c : Wd} (h : FrA a b) (g : FrA b c) : FrA a c := ⟨fun o s => (g.1 o s).trans (h.1 o s), fun o i q => (g.2 o i q).trans (h.2 o i q)⟩
theorem FrA.s (w : Wd) (i : Nat) (x : Int32) : FrA w (sA w 18 i x) := ⟨fun _ _ => rfl, fun o j q => by rw [gA_sA, if_neg (fun c => q c.1)]⟩
theorem la_ix (l k : Nat) : 1 + (7 * nI l) + nI k = nI (1 + 7 * l + k) := by
  rw [show 1 + (7 * nI l) + nI k = (nI 1 + nI 7 * nI l) + nI k from rfl, pk_mul, nI_add, nI_add]
/-- a ladder's claim gets shorter -/
theorem wm_shortens {w : Wd} {l la : Nat} {ow : Int32} {Post : Wd → Prop} (hl : l < 6) (hla : la ≤ 3) (h0 : la = 0 → ow = -1) (e5 : gA w 18 (1 + 7 * l + 5) = ow) (e6 : gA w 18 (1 + 7 * l + 6) = nI la) (h : ∀ w', FrA w w' → (∀ j, j ≠ 1 + 7 * l + 5 → j ≠ 1 + 7 * l + 6 → gA w' 18 j = gA w 18 j) → gA w' 18 (1 + 7 * l + 5) = (if la ≤ 1 then -1 else ow) → gA w' 18 (1 + 7 * l + 6) = nI (la - 1) → Post w') : wp_X9_shortens w (1 + (7 * nI l)) Post := by
  unfold wp_X9_shortens
  rw [show 1 + (7 * nI l) + 6 = nI (1 + 7 * l + 6) from la_ix l 6, show 1 + (7 * nI l) + 5 = nI (1 + 7 * l + 5) from la_ix l 5, nI_clamp (show 1 + 7 * l + 6 < 2 ^ 31 by omega), nI_clamp (show 1 + 7 * l + 5 < 2 ^ 31 by omega), e6, eq0 (by omega)]
  have i6 : vp_in (nI (1 + 7 * l + 6)) 140 := pk_in (1 + 7 * l + 6) 140 (by omega)
  have i5 : vp_in (nI (1 + 7 * l + 5)) 140 := pk_in (1 + 7 * l + 5) 140 (by omega)
  refine ⟨i6, fun c => ?_, fun c y1 e1 => ?_⟩
  · refine h w (FrA.rf w) (fun _ _ _ => rfl) ?_ ?_
    · rw [e5, h0 c, if_pos (by omega)]
    · rw [e6, c]
  · subst e1
    rw [nI_clamp (show 1 + 7 * l + 6 < 2 ^ 31 by omega), e6]
    refine ⟨i6, fun y2 e2 => ⟨i6, i6, ?_⟩⟩
    rw [show nI la - 1 = nI (la - 1) from pk_sub (b := 1) (by omega)] at e2
    subst e2
    rw [show gA (sA w 18 (1 + 7 * l + 6) (nI (la - 1))) 18 (1 + 7 * l + 6) = nI (la - 1) from g18s rfl, eq0 (by omega)]
    refine ⟨fun c2 => ⟨i5, ?_⟩, fun c2 => ⟨i5, fun y3 e3 => ⟨i5, ?_⟩⟩⟩
    · refine h _ ((FrA.s _ _ _).tr (FrA.s _ _ _)) (fun j q1 q2 => g18 q1 (g18 q2 rfl)) ?_ ?_
      · rw [g18s rfl, if_pos (by omega)]
      · exact g18 (by omega) (g18s rfl)
    · have e3 : y3 = ow := by rw [e3]; exact g18 (by omega) e5
      subst e3
      refine h _ ((FrA.s _ _ _).tr (FrA.s _ _ _)) (fun j q1 q2 => g18 q1 (g18 q2 rfl)) ?_ ?_
      · rw [g18s rfl, if_neg (by omega)]
      · exact g18 (by omega) (g18s rfl)
theorem log_ix0 {a : Nat} (h : a < 2 ^ 30) : 60 + (5 * (nI a - nI a / 16 * 16)) = nI (60 + rowN a) := by
  have := log_ix (q := 0) h
  rw [nI_0] at this
  rw [← nI_p0 (60 + rowN a), ← show nI (60 + (rowN a + 0)) = nI (60 + rowN a) + 0 from (nI_p0 _).symm, ← this]
  exact (by rw [Int32.add_zero])
set_option maxHeartbeats 4000000 in
theorem wm_acts {w : Wd} {b : Nat} {g : Gm} {r : Rs} {k l x y : Int32} {Post : Wd → Prop} (hg : g.ok) (hr : r.ok b g.n) (hb : b < 2 ^ 30) (hT : TD w 18 0 g r) (h : ∀ w', TD w' 18 0 g (finR r k l x y) → FrA w w' → Post w') : wp_X9_acts w k l x y Post := by
  have hn := hg.1
  obtain ⟨r1, r2, r3, r4⟩ := hr
  obtain ⟨h1, h2⟩ := hT.to0
  obtain ⟨_, h3, h4, h5, h6, h7, h8⟩ := hT.z
  have hrow := rowN_lt r.ac
  unfold wp_X9_acts
  intro J hJ y1 e1
  rw [h5, log_ix0 (by omega)] at e1
  subst e1
  rw [show nI (60 + rowN r.ac) + 1 = nI (60 + rowN r.ac + 1) from nI_pL _ 1, show nI (60 + rowN r.ac) + 2 = nI (60 + rowN r.ac + 2) from nI_pL _ 2, show nI (60 + rowN r.ac) + 3 = nI (60 + rowN r.ac + 3) from nI_pL _ 3, show nI (60 + rowN r.ac) + 4 = nI (60 + rowN r.ac + 4) from nI_pL _ 4, nI_clamp (show 60 + rowN r.ac < 2 ^ 31 by omega), nI_clamp (show 60 + rowN r.ac + 1 < 2 ^ 31 by omega), nI_clamp (show 60 + rowN r.ac + 2 < 2 ^ 31 by omega), nI_clamp (show 60 + rowN r.ac + 3 < 2 ^ 31 by omega), nI_clamp (show 60 + rowN r.ac + 4 < 2 ^ 31 by omega)]
  refine ⟨pk_in (60 + rowN r.ac) 140 (by omega), fun y2 e2 => ⟨pk_in (60 + rowN r.ac + 1) 140 (by omega), pk_in (60 + rowN r.ac + 2) 140 (by omega), pk_in (60 + rowN r.ac + 3) 140 (by omega), pk_in (60 + rowN r.ac + 4) 140 (by omega), fun y3 e3 => ?_⟩⟩
  have e2 : y2 = nI r.tu := by rw [e2]; exact g18 (by omega) h4
  subst e2
  have e3 : y3 = nI (r.ac + 1) := by
    rw [e3, show gA (sA (sA (sA (sA (sA w 18 (60 + rowN r.ac) k) 18 (60 + rowN r.ac + 1) (nI r.tu)) 18 (60 + rowN r.ac + 2) l) 18 (60 + rowN r.ac + 3) x) 18 (60 + rowN r.ac + 4) y) 18 56 = nI r.ac from g18 (by omega) (g18 (by omega) (g18 (by omega) (g18 (by omega) (g18 (by omega) h5)))), nI_1]
  subst e3
  generalize hW : sA (sA (sA (sA (sA (sA (sA w 18 (60 + rowN r.ac) k) 18 (60 + rowN r.ac + 1) (nI r.tu)) 18 (60 + rowN r.ac + 2) l) 18 (60 + rowN r.ac + 3) x) 18 (60 + rowN r.ac + 4) y) 18 56 (nI (r.ac + 1))) 18 57 (-1) = W1
  have wF : FrA w W1 := by
    rw [← hW]
    exact ((((((FrA.s _ _ _).tr (FrA.s _ _ _)).tr (FrA.s _ _ _)).tr (FrA.s _ _ _)).tr (FrA.s _ _ _)).tr (FrA.s _ _ _)).tr (FrA.s _ _ _)
  have wlow : ∀ j, j < 56 → gA W1 18 j = gA w 18 j := fun j hj => by
    rw [← hW]
    exact g18 (by omega) (g18 (by omega) (g18 (by omega) (g18 (by omega) (g18 (by omega) (g18 (by omega) (g18 (by omega) rfl))))))
  have w56 : gA W1 18 56 = nI (r.ac + 1) := by
    rw [← hW]
    exact g18 (by omega) (g18s rfl)
  have w57 : gA W1 18 57 = -1 := by
    rw [← hW]
    exact g18s rfl
  have wlog : ∀ i, i < 80 → i / 5 < r.ac + 1 → gA W1 18 (60 + i) = lgU r.lg r.ac k (nI r.tu) l x y i := fun i hi ha => by
    rw [← hW]
    refine g18 (by omega) (g18 (by omega) ?_)
    unfold lgU
    by_cases q4 : i = rowN r.ac + 4
    · rw [if_pos q4]
      exact g18s (by omega)
    rw [if_neg q4]
    refine g18 (by omega) ?_
    by_cases q3 : i = rowN r.ac + 3
    · rw [if_pos q3]
      exact g18s (by omega)
    rw [if_neg q3]
    refine g18 (by omega) ?_
    by_cases q2 : i = rowN r.ac + 2
    · rw [if_pos q2]
      exact g18s (by omega)
    rw [if_neg q2]
    refine g18 (by omega) ?_
    by_cases q1 : i = rowN r.ac + 1
    · rw [if_pos q1]
      exact g18s (by omega)
    rw [if_neg q1]
    refine g18 (by omega) ?_
    by_cases q0 : i = rowN r.ac
    · rw [if_pos q0]
      exact g18s (by omega)
    rw [if_neg q0]
    refine g18 (by omega) (h8 i hi ?_)
    unfold rowN at q0 q1 q2 q3 q4
    omega
  clear hW
  unfold wp_X9_ladders wp_X9_at at hJ
  have key : ∀ q i, i + q = g.n → ∀ w', FrA W1 w' → (∀ j, (j = 0 ∨ 43 ≤ j ∨ (j - 1) % 7 < 5) → gA w' 18 j = gA W1 18 j) → (∀ m, m < g.n → gA w' 18 (1 + 7 * m + 5) = (if m < i then (if r.la m ≤ 1 then -1 else r.ow m) else r.ow m) ∧ gA w' 18 (1 + 7 * m + 6) = nI (if m < i then r.la m - 1 else r.la m)) → J (nI i) w' := by
    intro q
    induction q with
    | zero =>
      intro i hi w' hF hS hv
      obtain rfl : i = g.n := by omega
      refine hJ _ _ ⟨fun _ y4 e4 => ?_, fun c => ?_⟩
      · rw [hS 55 (by omega), wlow 55 (by omega), h4, show 1 - nI r.tu = nI (1 - r.tu) from pk_sub (a := 1) r1] at e4
        subst e4
        refine h _ (TD.of0 (g18 (by omega) ?_) (fun m hm => ?_) (fun p hp j hj => ⟨g18 (by omega) ?_, g18 (by omega) ?_⟩) (g18s rfl) (g18 (by omega) ?_) (g18 (by omega) ?_) (fun c => absurd rfl c) (fun i hi ha => g18 (by omega) ?_)) ((wF.tr hF).tr (FrA.s _ _ _))
        · rw [hS 0 (by omega), wlow 0 (by omega)]
          exact h1
        · obtain ⟨a1, a2, a3, a4, a5, a6, a7⟩ := h2 m hm
          obtain ⟨v5, v6⟩ := hv m hm
          rw [if_pos hm] at v5 v6
          exact ⟨g18 (by omega) ((hS _ (by omega)).trans ((wlow _ (by omega)).trans a1)), g18 (by omega) ((hS _ (by omega)).trans ((wlow _ (by omega)).trans a2)), g18 (by omega) ((hS _ (by omega)).trans ((wlow _ (by omega)).trans a3)), g18 (by omega) ((hS _ (by omega)).trans ((wlow _ (by omega)).trans a4)), g18 (by omega) ((hS _ (by omega)).trans ((wlow _ (by omega)).trans a5)), g18 (by omega) v5, g18 (by omega) v6⟩
        · exact (hS _ (by omega)).trans ((wlow _ (by omega)).trans (h3 p hp j hj).1)
        · exact (hS _ (by omega)).trans ((wlow _ (by omega)).trans (h3 p hp j hj).2)
        · exact (hS _ (by omega)).trans w56
        · exact (hS _ (by omega)).trans w57
        · exact (hS _ (by omega)).trans (wlog i hi ha)
      · rw [hS 0 (by omega), wlow 0 (by omega), h1] at c
        simp (disch := omega) only [nI_leI] at c
        omega
    | succ q ih =>
      intro i hi w' hF hS hv
      have hin : i < g.n := by omega
      obtain ⟨v5, v6⟩ := hv i hin
      rw [if_neg (Nat.lt_irrefl i)] at v5 v6
      refine hJ _ _ ⟨fun c => ?_, fun _ => ?_⟩
      · rw [hS 0 (by omega), wlow 0 (by omega), h1] at c
        simp (disch := omega) only [nI_leI] at c
        omega
      · refine wm_shortens (by omega) (r3 i hin).1 (r3 i hin).2 v5 v6 (fun w2 hF2 hS2 v5' v6' y5 e5 => ?_)
        subst e5
        rw [nI_1]
        refine ih (i + 1) (by omega) w2 (hF.tr hF2) (fun j hj => (hS2 j (by omega) (by omega)).trans (hS j hj)) (fun m hm => ?_)
        by_cases e : m = i
        · subst e
          have q1 : m < m + 1 := by omega
          rw [if_pos q1, if_pos q1]
          exact ⟨v5', v6'⟩
        · rw [hS2 _ (by omega) (by omega), hS2 _ (by omega) (by omega)]
          have := hv m hm
          by_cases q2 : m < i
          · have q1 : m < i + 1 := by omega
            rw [if_pos q2, if_pos q2] at this
            rw [if_pos q1, if_pos q1]
            exact this
          · have q1 : ¬ m < i + 1 := by omega
            rw [if_neg q2, if_neg q2] at this
            rw [if_neg q1, if_neg q1]
            exact this
  refine key g.n 0 (by omega) W1 (FrA.rf W1) (fun _ _ => rfl) (fun m hm => ?_)
  rw [if_neg (Nat.not_lt_zero m), if_neg (Nat.not_lt_zero m), wlow _ (by omega), wlow _ (by omega)]
  exact ⟨(h2 m hm).2.2.2.2.2.1, (h2 m hm).2.2.2.2.2.2⟩

/-! the class: the change of value behind a listed step, the first winning one -/
def vB (g : Gm) (c : Cho) : Nat := val (g.lk c.1) (g.sz c.1) (nx (g.co c.1) c.2.1 c.2.2)
theorem cd_dec {l h s : Nat} (hl : l < 6) (hh : h ≤ 12) (hs : s ≤ 12) : nI (cdN (l, h, s)) >>> (8 &&& 31) = nI l ∧ (nI (cdN (l, h, s)) >>> (4 &&& 31)) &&& 15 = nI h ∧ nI (cdN (l, h, s)) &&& 15 = nI s := by
  have e : cdN (l, h, s) = l * 256 + (h * 16 + s) := rfl
  have hb : cdN (l, h, s) < 2 ^ 31 := by omega
  have e1 : nI (cdN (l, h, s)) >>> (8 &&& 31) = nI (cdN (l, h, s) / 2 ^ 8) := pk_shrN hb (8 &&& 31) 8 (by decide)
  have e2 : nI (cdN (l, h, s)) >>> (4 &&& 31) = nI (cdN (l, h, s) / 2 ^ 4) := pk_shrN hb (4 &&& 31) 4 (by decide)
  have e3 : ∀ n : Nat, nI n &&& (15 : Int32) = nI (n % 2 ^ 4) := fun n => fa_mask n 4
  rw [e1, e2, e3, e3]
  refine ⟨congrArg nI ?_, congrArg nI ?_, congrArg nI ?_⟩ <;> omega
theorem inC_nx {g : Gm} {r : Rs} {c : Cho} (hg : g.ok) (hc : inC g r c) : isPos (nx (g.co c.1) c.2.1 c.2.2) = true ∧ pop (nx (g.co c.1) c.2.1 c.2.2) ≤ g.cn c.1 ∧ nx (g.co c.1) c.2.1 c.2.2 < g.co c.1 := by
  obtain ⟨h1, h2, h3, h4, h5, h6⟩ := hc
  obtain ⟨b1, b2, b3, b4, b5, b6, b7, b8, b9, b10⟩ := hg.2 c.1 h1
  have hm := g.pos hg h1
  have hx : nx (g.co c.1) c.2.1 c.2.2 ∈ nxs (g.lk c.1) (g.sz c.1) (g.co c.1) := mem_nxs.mpr ⟨_, _, by omega, h4, h5, (alB_ok h6).1, rfl⟩
  obtain ⟨p1, p2, p3⟩ := nxs_pos hm hx
  exact ⟨p1, by omega, (nxs_lt b9 hx).1⟩
theorem wh_changeOfValue {w : Wd} {g : Gm} {r : Rs} {c : Cho} {Post : Int32 → Wd → Prop} (hg : g.ok) (hG : GC w g) (hc : inC g r c) (h : ∀ w', GC w' g → FrC w w' → Post (nI (vNow g c.1 ^^^ vB g c)) w') : wp_X0_changeOfValue w (nI (cdN c)) Post := by
  obtain ⟨h1, h2, h3, h4, h5, h6⟩ := id hc
  have hl6 : c.1 < 6 := Nat.lt_of_lt_of_le h1 hg.1
  obtain ⟨b1, b2, b3, b4, b5, b6, b7, b8, b9, b10⟩ := hg.2 c.1 h1
  obtain ⟨a1, a2, a3, a4, a5⟩ := hG.2.1 c.1 h1
  obtain ⟨e1, e2, e3⟩ := cd_dec (l := c.1) (h := c.2.1) (s := c.2.2) hl6 (by omega) (by omega)
  have e1 : nI (cdN c) >>> (8 &&& 31) = nI c.1 := e1
  have e2 : (nI (cdN c) >>> (4 &&& 31)) &&& 15 = nI c.2.1 := e2
  have e3 : nI (cdN c) &&& 15 = nI c.2.2 := e3
  obtain ⟨k1, k2, k3, k4, k5⟩ := okS_sp (alB_ok h6).1
  have hm := g.pos hg h1
  obtain ⟨m1, m2, m3⟩ := isPos_sp hm
  obtain ⟨n1, n2, n3⟩ := inC_nx hg hc
  obtain ⟨r1, r2⟩ := rank_ok hm
  obtain ⟨r3, r4⟩ := rank_ok n1
  unfold wp_X0_changeOfValue wp_X0_ladderOf wp_X0_heightOf wp_X0_sizeOf
  rw [e1, e2, e3]
  refine ⟨pk_in c.1 6 hl6, fun y1 ey => ?_⟩
  rw [nI_clamp (by omega), show gA w (53 + 8 * 0 + 1) c.1 = nI (g.co c.1) from a4] at ey
  subst ey
  rw [pk_sub k3]
  refine wh_moved (by omega) (by omega) ?_
  refine wh_valuesOf hg hG h1 (fun w1 f hV hG1 hF1 => ?_)
  refine wh_rankOf (lt31 m1) ?_
  refine wh_valueAt r1 b6 b7 b4 b5 b3 300 w1 f (by omega) hV hG1.2.2.1 (fun w2 f2 _ hV2 hF2 => ?_)
  have hG2 : GC w2 g := hG1.fr (hF2.C hl6) (VCs.one hG1.2.2.2 hF2 hV2 b3 b4 b5 b6 b7)
  refine wh_rankOf (lt31 (isPos_sp n1).1) ?_
  refine wh_valueAt r3 b6 b7 b4 b5 b3 300 w2 f2 (by omega) hV2 hG2.2.2.1 (fun w3 f3 _ hV3 hF3 => ?_)
  have hG3 : GC w3 g := hG2.fr (hF3.C hl6) (VCs.one hG2.2.2.2 hF3 hV3 b3 b4 b5 b6 b7)
  have x1 : vR (g.cn c.1) (g.sz c.1) (g.lk c.1) (rankN (g.co c.1)) = vNow g c.1 := by
    unfold vR
    rw [r2, if_neg (by omega)]
    rfl
  have x2 : vR (g.cn c.1) (g.sz c.1) (g.lk c.1) (rankN (nx (g.co c.1) c.2.1 c.2.2)) = vB g c := by
    unfold vR
    rw [r4, if_neg (by omega)]
    rfl
  rw [x1, x2, fb_xorI]
  exact h w3 hG3 ((hF1.tr (hF2.C hl6)).tr (hF3.C hl6))
def winB (g : Gm) (c : Cho) : Bool := decide (vNow g c.1 ^^^ vB g c = sumTo g g.n)
theorem winB_iff {g : Gm} {c : Cho} : winB g c = true ↔ vNow g c.1 ^^^ vB g c = sumTo g g.n := by
  unfold winB
  exact decide_eq_true_iff
def bestN (g : Gm) (r : Rs) : Nat := (chs g r).findIdx (winB g)
def bestS (g : Gm) (r : Rs) : Int32 := if bestN g r < (chs g r).length then nI (bestN g r) else -1
theorem vNow_le {g : Gm} (hg : g.ok) {l : Nat} (hl : l < g.n) : vNow g l ≤ 12 := by
  obtain ⟨m1, m2, m3⟩ := isPos_sp (g.pos hg hl)
  exact val_le m2 m3 (hg.2 l hl).2.2.2.2.1
theorem vB_le {g : Gm} {r : Rs} {c : Cho} (hg : g.ok) (hc : inC g r c) : vB g c ≤ 12 := by
  obtain ⟨m1, m2, m3⟩ := isPos_sp (inC_nx hg hc).1
  exact val_le m2 m3 (hg.2 c.1 hc.1).2.2.2.2.1
theorem sumTo_lt {g : Gm} (hg : g.ok) : ∀ k, k ≤ g.n → sumTo g k < 16
  | 0, _ => (by decide : 0 < 16)
  | k + 1, hk => by
    have h1 := sumTo_lt hg k (by omega)
    have h2 := vNow_le hg (l := k) (by omega)
    exact Nat.xor_lt_two_pow (n := 4) h1 (Nat.lt_of_le_of_lt h2 (by decide))
theorem xor16 {a b : Nat} (ha : a < 16) (hb : b < 16) : a ^^^ b < 16 := Nat.xor_lt_two_pow (n := 4) ha hb
theorem idx_no {α : Type} {p : α → Bool} {xs : List α} {i : Nat} (h : ∀ j, (hj : j < xs.length) → j < i → p xs[j] = false) (hi : i < xs.length) (hp : p xs[i] = true) : xs.findIdx p = i := by
  refine (List.findIdx_eq hi).mpr ⟨hp, fun j hj => ?_⟩
  rw [h j (by omega) hj]
theorem okCh_fr {w w' : Wd} {xs : List Cho} (h : okCh w xs) (hF : FrC w w') : okCh w' xs := fun i hi => (hF.2.1 4 i (by omega) (by decide)).trans (h i hi)
theorem wh_firstWinning {w : Wd} {g : Gm} {r : Rs} {Post : Int32 → Wd → Prop} (hg : g.ok) (hG : GC w g) (hC : okCh w (chs g r)) (h : ∀ w', GC w' g → FrC w w' → Post (bestS g r) w') : wp_X0_firstWinning w (nI (chs g r).length) (nI (sumTo g g.n)) Post := by
  unfold wp_X0_firstWinning
  intro J hJ
  have h72 := chs_len hg r
  have hs := sumTo_lt hg g.n (Nat.le_refl _)
  have key : ∀ k i, i + k = (chs g r).length → (∀ j, (hj : j < (chs g r).length) → j < i → winB g ((chs g r)[j]'hj) = false) → ∀ w', GC w' g → FrC w w' → J (nI i) w' := by
    intro k
    induction k with
    | zero =>
      intro i hi hno w' hG' hF
      refine hJ _ _ ⟨fun _ => ?_, fun c => ?_⟩
      · have e : bestS g r = -1 := if_neg (fun q => by
          have h1 : winB g ((chs g r)[bestN g r]'q) = true := List.findIdx_getElem (p := winB g) (w := q)
          have h2 := hno (bestN g r) q (by omega)
          rw [h2] at h1
          cases h1)
        have := h w' hG' hF
        rw [e] at this
        exact this
      · simp (disch := omega) only [nI_leI] at c
        omega
    | succ k ih =>
      intro i hi hno w' hG' hF
      have hil : i < (chs g r).length := by omega
      have hc := chs_in (List.getElem_mem hil)
      refine hJ _ _ ⟨fun c => ?_, fun _ => ⟨fun c => ?_, fun _ => ⟨pk_in i 72 (by omega), ?_⟩⟩⟩
      · simp (disch := omega) only [nI_leI] at c
        omega
      · simp (disch := omega) only [fa_lit, nI_leI] at c
        omega
      · rw [nI_clamp (by omega), okCh_fr hC hF i hil, List.getD_eq_getElem?_getD, List.getElem?_eq_getElem hil, Option.getD_some]
        refine wh_changeOfValue hg hG' hc (fun w2 hG2 hF2 => ?_)
        have hx1 := vNow_le hg hc.1
        have hx2 := vB_le hg hc
        have hx3 := xor16 (Nat.lt_of_le_of_lt hx1 (by decide)) (Nat.lt_of_le_of_lt hx2 (by decide))
        refine ⟨fun c => ?_, fun c y e => ?_⟩
        · have c' := (nI_eq (by omega) (by omega)).mp c
          have hw : winB g ((chs g r)[i]'hil) = true := winB_iff.mpr c'
          have e : bestN g r = i := idx_no hno hil hw
          have := h w2 hG2 (hF.tr hF2)
          unfold bestS at this
          rw [e, if_pos hil] at this
          exact this
        · subst e
          rw [nI_1]
          refine ih (i + 1) (by omega) (fun j hj hji => ?_) w2 hG2 (hF.tr hF2)
          rcases Nat.lt_or_ge j i with q | q
          · exact hno j hj q
          · obtain rfl : j = i := by omega
            cases hw : winB g ((chs g r)[j]'hj)
            · rfl
            · exact absurd (by rw [winB_iff.mp hw]) c
  exact key _ 0 (Nat.zero_add _) (fun j _ hj => absurd hj (Nat.not_lt_zero j)) w hG (FrC.rf w)

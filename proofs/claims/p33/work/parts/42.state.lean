/-! the rest of a game: who has claimed, for how long, tokens, counts, whose turn, acts, ban, log -/
def Rs : Type := (Nat → Int32) × (Nat → Nat) × (Nat → Nat) × (Nat → Int32) × Nat × Nat × (Int32 × Int32 × Int32) × (Nat → Int32)
def Rs.ow (r : Rs) : Nat → Int32 := r.1
def Rs.la (r : Rs) : Nat → Nat := r.2.1
def Rs.tk (r : Rs) : Nat → Nat := r.2.2.1
def Rs.ct (r : Rs) : Nat → Int32 := r.2.2.2.1
def Rs.tu (r : Rs) : Nat := r.2.2.2.2.1
def Rs.ac (r : Rs) : Nat := r.2.2.2.2.2.1
def Rs.bn (r : Rs) : Int32 × Int32 × Int32 := r.2.2.2.2.2.2.1
def Rs.lg (r : Rs) : Nat → Int32 := r.2.2.2.2.2.2.2
def Gm.sco (g : Gm) (l v : Nat) : Gm := (g.1, g.2.1, g.2.2.1, g.2.2.2.1, fun k => if k = l then v else g.co k, g.2.2.2.2.2)
def Gm.slk (g : Gm) (l v : Nat) : Gm := (g.1, g.2.1, g.2.2.1, g.2.2.2.1, g.2.2.2.2.1, fun k => if k = l then v else g.lk k)
/-- the same ladders, perhaps with other coins and locks -/
def sameS (g g' : Gm) : Prop := g'.n = g.n ∧ g'.top = g.top ∧ g'.cn = g.cn ∧ g'.sz = g.sz
theorem sameS.rf (g : Gm) : sameS g g := ⟨rfl, rfl, rfl, rfl⟩
theorem sameS.tr {a b c : Gm} (h : sameS a b) (h2 : sameS b c) : sameS a c := ⟨h2.1.trans h.1, h2.2.1.trans h.2.1, h2.2.2.1.trans h.2.2.1, h2.2.2.2.trans h.2.2.2⟩
theorem sameS.sy {a b : Gm} (h : sameS a b) : sameS b a := ⟨h.1.symm, h.2.1.symm, h.2.2.1.symm, h.2.2.2.symm⟩
/-- row of the log that the act with this number has -/
def rowN (a : Nat) : Nat := a % 16 * 5
/-- what the rules keep of the rest -/
def Rs.ok (b n : Nat) (r : Rs) : Prop := r.tu ≤ 1 ∧ (∀ i, i < 6 → r.tk i ≤ 9) ∧ (∀ l, l < n → r.la l ≤ 3 ∧ (r.la l = 0 → r.ow l = -1)) ∧ r.ac ≤ b
/-- if the latest act is a step, the coins are those behind it -/
def lastOK (g : Gm) (r : Rs) : Prop := 0 < r.ac → r.lg (rowN (r.ac - 1)) = 0 → ∃ l h s m, l < g.n ∧ r.lg (rowN (r.ac - 1) + 2) = nI l ∧ r.lg (rowN (r.ac - 1) + 3) = nI h ∧ r.lg (rowN (r.ac - 1) + 4) = nI s ∧ 1 ≤ s ∧ s ≤ 12 ∧ okS (g.lk l) (g.sz l) m h s = true ∧ g.co l = nx m h s ∧ m < 2 ^ (g.top l + 1) ∧ m.testBit 0 = false ∧ pop m ≤ g.cn l
abbrev Ps : Type := Gm × Rs
def Ps.ok (b : Nat) (p : Ps) : Prop := p.1.ok ∧ p.2.ok b p.1.n ∧ lastOK p.1 p.2
theorem Rs.ok.up {b c n : Nat} {r : Rs} (h : r.ok b n) (hb : b ≤ c) : r.ok c n := ⟨h.1, h.2.1, h.2.2.1, Nat.le_trans h.2.2.2 hb⟩
theorem Ps.ok.up {b c : Nat} {p : Ps} (h : p.ok b) (hb : b ≤ c) : p.ok c := ⟨h.1, h.2.1.up hb, h.2.2⟩
/-- state number j of the class's: its coins and locks, and the rest -/
def CD (w : Wd) (j : Nat) (g : Gm) : Prop := ∀ l, l < g.n → gA w (54 + 8 * j) l = nI (g.co l) ∧ gA w (55 + 8 * j) l = nI (g.lk l)
def CR (w : Wd) (j n : Nat) (r : Rs) : Prop := (∀ l, l < n → gA w (56 + 8 * j) l = r.ow l ∧ gA w (57 + 8 * j) l = nI (r.la l)) ∧ (∀ i, i < 6 → gA w (58 + 8 * j) i = nI (r.tk i) ∧ gA w (59 + 8 * j) i = r.ct i) ∧ gI w (53 + 8 * j) 7 = nI r.tu ∧ gI w (53 + 8 * j) 8 = nI r.ac ∧ gI w (53 + 8 * j) 9 = r.bn.1 ∧ gI w (53 + 8 * j) 10 = r.bn.2.1 ∧ gI w (53 + 8 * j) 11 = r.bn.2.2 ∧ ∀ i, i < 80 → i / 5 < r.ac → gA w (60 + 8 * j) i = r.lg i
theorem CD.of {w w' : Wd} {j : Nat} {g : Gm} (h : CD w j g) (e : ∀ o i, 54 + 8 * j ≤ o → o < 61 + 8 * j → gA w' o i = gA w o i) : CD w' j g := fun l hl => ⟨(e _ _ (by omega) (by omega)).trans (h l hl).1, (e _ _ (by omega) (by omega)).trans (h l hl).2⟩
theorem CR.of {w w' : Wd} {j n : Nat} {r : Rs} (h : CR w j n r) (e : ∀ o i, 54 + 8 * j ≤ o → o < 61 + 8 * j → gA w' o i = gA w o i) (e2 : ∀ k, gI w' (53 + 8 * j) k = gI w (53 + 8 * j) k) : CR w' j n r := by
  obtain ⟨h1, h2, h3, h4, h5, h6, h7, h8⟩ := h
  refine ⟨fun l hl => ⟨(e _ _ (by omega) (by omega)).trans (h1 l hl).1, (e _ _ (by omega) (by omega)).trans (h1 l hl).2⟩, fun i hi => ⟨(e _ _ (by omega) (by omega)).trans (h2 i hi).1, (e _ _ (by omega) (by omega)).trans (h2 i hi).2⟩, (e2 _).trans h3, (e2 _).trans h4, (e2 _).trans h5, (e2 _).trans h6, (e2 _).trans h7, fun i hi ha => (e _ _ (by omega) (by omega)).trans (h8 i hi ha)⟩
/-- all but the caches and the class's scratch -/
def FrW (w w' : Wd) : Prop := (∀ o s, ¬ (41 ≤ o ∧ o < 53) → gI w' o s = gI w o s) ∧ (∀ o i, ¬ (41 ≤ o ∧ o < 53) → o ≠ 4 → o ≠ 7 → o ≠ 9 → gA w' o i = gA w o i) ∧ w'.2.2 = w.2.2
theorem FrW.rf (w : Wd) : FrW w w := ⟨fun _ _ _ => rfl, fun _ _ _ _ _ _ => rfl, rfl⟩
theorem FrW.tr {a b c : Wd} (h : FrW a b) (g : FrW b c) : FrW a c := ⟨fun o s q => (g.1 o s q).trans (h.1 o s q), fun o i q r t u => (g.2.1 o i q r t u).trans (h.2.1 o i q r t u), g.2.2.trans h.2.2⟩
theorem FrC.W {w w' : Wd} (h : FrC w w') : FrW w w' := ⟨h.1, fun o i q _ r _ => h.2.1 o i q r, h.2.2⟩
theorem GC.frW {w w' : Wd} {g : Gm} (h : GC w g) (hF : FrW w w') (hV : VCs w') : GC w' g := by
  obtain ⟨h1, h2, h3, h4⟩ := h
  refine ⟨(hF.1 34 6 (by omega)).trans h1, fun l hl => ?_, fun i hi => (hF.2.1 6 i (by omega) (by decide) (by decide) (by decide)).trans (h3 i hi), hV⟩
  obtain ⟨a1, a2, a3, a4, a5⟩ := h2 l hl
  exact ⟨(hF.2.1 35 l (by omega) (by decide) (by decide) (by decide)).trans a1, (hF.2.1 36 l (by omega) (by decide) (by decide) (by decide)).trans a2, (hF.2.1 37 l (by omega) (by decide) (by decide) (by decide)).trans a3, (hF.2.1 54 l (by omega) (by decide) (by decide) (by decide)).trans a4, (hF.2.1 55 l (by omega) (by decide) (by decide) (by decide)).trans a5⟩
theorem FrW.CD {w w' : Wd} {j : Nat} {g : Gm} (hF : FrW w w') (h : CD w j g) : CD w' j g := h.of fun o i h1 _ => hF.2.1 o i (by omega) (by omega) (by omega) (by omega)
theorem FrW.CR {w w' : Wd} {j n : Nat} {r : Rs} (hF : FrW w w') (h : CR w j n r) : CR w' j n r := h.of (fun o i h1 _ => hF.2.1 o i (by omega) (by omega) (by omega) (by omega)) (fun k => hF.1 _ _ (by omega))
/-! the whole: the game, what can be undone (the latest first), what is saved, the text -/
def Sy : Type := Ps × (Nat × (Nat → Ps)) × ((Nat → Bool) × (Nat → Ps)) × (Nat × (Nat → Int32))
def Sy.p (S : Sy) : Ps := S.1
def Sy.g (S : Sy) : Gm := S.1.1
def Sy.r (S : Sy) : Rs := S.1.2
def Sy.d (S : Sy) : Nat := S.2.1.1
def Sy.H (S : Sy) : Nat → Ps := S.2.1.2
def Sy.sv (S : Sy) : Nat → Bool := S.2.2.1.1
def Sy.T (S : Sy) : Nat → Ps := S.2.2.1.2
def Sy.len (S : Sy) : Nat := S.2.2.2.1
def Sy.buf (S : Sy) : Nat → Int32 := S.2.2.2.2
def Sy.ok (b : Nat) (S : Sy) : Prop := S.p.ok b ∧ S.d ≤ 10 ∧ (∀ i, i < S.d → (S.H i).ok b ∧ sameS S.g (S.H i).1) ∧ (∀ k, k < 2 → S.sv k = true → (S.T k).ok b ∧ sameS S.g (S.T k).1) ∧ S.len ≤ 400
theorem Sy.ok.up {b c : Nat} {S : Sy} (h : S.ok b) (hb : b ≤ c) : S.ok c := ⟨h.1.up hb, h.2.1, fun i hi => ⟨(h.2.2.1 i hi).1.up hb, (h.2.2.1 i hi).2⟩, fun k hk hs => ⟨(h.2.2.2.1 k hk hs).1.up hb, (h.2.2.2.1 k hk hs).2⟩, h.2.2.2.2⟩
/-- where the class keeps what came i changes before the latest -/
def rgN (nx i : Nat) : Nat := (nx + 9 - i) % 10
def CH (w : Wd) (S : Sy) : Prop := ∃ nx, nx < 10 ∧ gI w 11 3 = nI S.d ∧ gI w 11 4 = nI nx ∧ ∀ i, i < S.d → CD w (1 + rgN nx i) (S.H i).1 ∧ CR w (1 + rgN nx i) (S.H i).1.n (S.H i).2
def CT (w : Wd) (S : Sy) : Prop := ∀ k, k < 2 → gA w 14 k = bI (S.sv k) ∧ (S.sv k = true → CD w (11 + k) (S.T k).1 ∧ CR w (11 + k) (S.T k).1.n (S.T k).2)
def CB (w : Wd) (S : Sy) : Prop := gI w 1 1 = nI S.len ∧ ∀ i, i < S.len → gA w 2 i = S.buf i
def CI (w : Wd) (S : Sy) : Prop := GC w S.g ∧ CR w 0 S.g.n S.r ∧ CH w S ∧ CT w S ∧ CB w S
theorem FrW.CH {w w' : Wd} {S : Sy} (hF : FrW w w') (h : CH w S) : CH w' S := by
  obtain ⟨nx, h1, h2, h3, h4⟩ := h
  exact ⟨nx, h1, (hF.1 _ _ (by omega)).trans h2, (hF.1 _ _ (by omega)).trans h3, fun i hi => ⟨hF.CD (h4 i hi).1, hF.CR (h4 i hi).2⟩⟩
theorem FrW.CT {w w' : Wd} {S : Sy} (hF : FrW w w') (h : CT w S) : CT w' S := fun k hk => ⟨(hF.2.1 _ _ (by omega) (by decide) (by decide) (by decide)).trans (h k hk).1, fun hs => ⟨hF.CD ((h k hk).2 hs).1, hF.CR ((h k hk).2 hs).2⟩⟩
theorem FrW.CB {w w' : Wd} {S : Sy} (hF : FrW w w') (h : CB w S) : CB w' S := ⟨(hF.1 _ _ (by omega)).trans h.1, fun i hi => (hF.2.1 _ _ (by omega) (by decide) (by decide) (by decide)).trans (h.2 i hi)⟩
theorem CI.fr {w w' : Wd} {S : Sy} (h : CI w S) (hG : GC w' S.g) (hF : FrW w w') : CI w' S := ⟨hG, hF.CR h.2.1, hF.CH h.2.2.1, hF.CT h.2.2.2.1, hF.CB h.2.2.2.2⟩
/-! two worlds mixed -/
theorem gI_mx (p : Nat → Bool) (w w1 : Wd) (o k : Nat) : gI (mx p w w1) o k = if p o = true then gI w1 o k else gI w o k := by
  unfold gI mx
  by_cases h : p o = true <;> simp [h]
theorem gA_mx (p : Nat → Bool) (w w1 : Wd) (o k : Nat) : gA (mx p w w1) o k = if p o = true then gA w1 o k else gA w o k := by
  unfold gA mx
  by_cases h : p o = true <;> simp [h]
theorem gL_mx (p : Nat → Bool) (w w1 : Wd) (o k : Nat) : gL (mx p w w1) o k = if p o = true then gL w1 o k else gL w o k := by
  unfold gL mx
  by_cases h : p o = true <;> simp [h]
theorem gD_mx (p : Nat → Bool) (w w1 : Wd) (o k : Nat) : gD (mx p w w1) o k = if p o = true then gD w1 o k else gD w o k := by
  unfold gD mx
  by_cases h : p o = true <;> simp [h]
theorem pC_y {o : Nat} (h : o < 15 ∨ 27 ≤ o) : pC o = true := by
  unfold pC
  rw [Bool.or_eq_true, decide_eq_true_eq, decide_eq_true_eq]
  exact h
theorem pC_n {o : Nat} (h : 15 ≤ o) (h2 : o < 27) : ¬ pC o = true := by
  unfold pC
  rw [Bool.or_eq_true, decide_eq_true_eq, decide_eq_true_eq]
  omega
def eqC (w w' : Wd) : Prop := (∀ o k, (o < 15 ∨ 27 ≤ o) → gI w' o k = gI w o k) ∧ (∀ o k, (o < 15 ∨ 27 ≤ o) → gA w' o k = gA w o k) ∧ (∀ o k, (o < 15 ∨ 27 ≤ o) → gL w' o k = gL w o k) ∧ (∀ o k, (o < 15 ∨ 27 ≤ o) → gD w' o k = gD w o k)
theorem eqC_mxC (w w1 : Wd) : eqC w1 (mx pC w w1) := ⟨fun o k h => by rw [gI_mx, if_pos (pC_y h)], fun o k h => by rw [gA_mx, if_pos (pC_y h)], fun o k h => by rw [gL_mx, if_pos (pC_y h)], fun o k h => by rw [gD_mx, if_pos (pC_y h)]⟩
theorem eqC.tr {a b c : Wd} (h : eqC a b) (g : eqC b c) : eqC a c := ⟨fun o k q => (g.1 o k q).trans (h.1 o k q), fun o k q => (g.2.1 o k q).trans (h.2.1 o k q), fun o k q => (g.2.2.1 o k q).trans (h.2.2.1 o k q), fun o k q => (g.2.2.2 o k q).trans (h.2.2.2 o k q)⟩
theorem VC.eq {w w' : Wd} {k cc z l f : Nat} (h : VC w k cc z l f) (e : eqC w w') : VC w' k cc z l f := by
  obtain ⟨a1, a2, a3, a4, a5, a6⟩ := h
  exact ⟨(e.1 _ _ (by omega)).trans a1, (e.1 _ _ (by omega)).trans a2, (e.1 _ _ (by omega)).trans a3, (e.1 _ _ (by omega)).trans a4, a5, fun r hr => (e.2.1 _ _ (by omega)).trans (a6 r hr)⟩
theorem CI.eq {w w' : Wd} {S : Sy} (h : CI w S) (e : eqC w w') : CI w' S := by
  obtain ⟨⟨g1, g2, g3, g4⟩, h2, ⟨nx, h3, h4, h5, h6⟩, h7, h8, h9⟩ := h
  have e1 := e.1
  have e2 := e.2.1
  refine ⟨⟨(e1 _ _ (by omega)).trans g1, fun l hl => ?_, fun i hi => (e2 _ _ (by omega)).trans (g3 i hi), fun k hk => ?_⟩, h2.of (fun o i _ _ => e2 o i (by omega)) (fun k => e1 _ k (by omega)), ⟨nx, h3, (e1 _ _ (by omega)).trans h4, (e1 _ _ (by omega)).trans h5, fun i hi => ⟨(h6 i hi).1.of (fun o i _ _ => e2 o i (by omega)), (h6 i hi).2.of (fun o i _ _ => e2 o i (by omega)) (fun k => e1 _ k (by omega))⟩⟩, fun k hk => ⟨(e2 _ _ (by omega)).trans (h7 k hk).1, fun hs => ⟨((h7 k hk).2 hs).1.of (fun o i _ _ => e2 o i (by omega)), ((h7 k hk).2 hs).2.of (fun o i _ _ => e2 o i (by omega)) (fun k => e1 _ k (by omega))⟩⟩, (e1 _ _ (by omega)).trans h8, fun i hi => (e2 _ _ (by omega)).trans (h9 i hi)⟩
  · obtain ⟨a1, a2, a3, a4, a5⟩ := g2 l hl
    exact ⟨(e2 _ _ (by omega)).trans a1, (e2 _ _ (by omega)).trans a2, (e2 _ _ (by omega)).trans a3, (e2 _ _ (by omega)).trans a4, (e2 _ _ (by omega)).trans a5⟩
  · obtain ⟨cc, z, l, f, hV, hr⟩ := g4 k hk
    exact ⟨cc, z, l, f, hV.eq e, hr⟩

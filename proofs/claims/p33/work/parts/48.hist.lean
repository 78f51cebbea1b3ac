/-! the class: what can be undone, and the slots -/
theorem gA_cpA (w : Wd) (o0 o1 sp dp n o i : Nat) : gA (cpA w o0 o1 sp dp n) o i = if o = o1 then va_cpy (gA w o0) (gA w o1) sp dp n i else gA w o i := by
  unfold cpA
  rw [gA_sF]
theorem gI_cpA (w : Wd) (o0 o1 sp dp n o i : Nat) : gI (cpA w o0 o1 sp dp n) o i = gI w o i := rfl
theorem wh_copyState {w : Wd} {k k1 : Nat} {Post : Wd → Prop} (hk : k ≠ k1) (h : ∀ w', (∀ o i, ¬ (54 + 8 * k ≤ o ∧ o ≤ 60 + 8 * k) → gA w' o i = gA w o i) → (∀ o i, o ≠ 53 + 8 * k → gI w' o i = gI w o i) → w'.2.2 = w.2.2 → (∀ j i, 1 ≤ j → j ≤ 7 → i < stLen j → gA w' (53 + 8 * k + j) i = gA w (53 + 8 * k1 + j) i) → (∀ i, 7 ≤ i → i ≤ 11 → gI w' (53 + 8 * k) i = gI w (53 + 8 * k1) i) → Post w') : wp_X7_copyFrom k k1 w Post := by
  unfold wp_X7_copyFrom
  generalize hW : cpA (cpA (cpA (cpA (cpA (cpA (cpA w (53 + 8 * k1 + 1) (53 + 8 * k + 1) 0 0 6) (53 + 8 * k1 + 2) (53 + 8 * k + 2) 0 0 6) (53 + 8 * k1 + 3) (53 + 8 * k + 3) 0 0 6) (53 + 8 * k1 + 4) (53 + 8 * k + 4) 0 0 6) (53 + 8 * k1 + 5) (53 + 8 * k + 5) 0 0 6) (53 + 8 * k1 + 6) (53 + 8 * k + 6) 0 0 6) (53 + 8 * k1 + 7) (53 + 8 * k + 7) 0 0 80 = W
  have wI : ∀ o i, gI W o i = gI w o i := fun o i => by rw [← hW]; rfl
  have wD : W.2.2 = w.2.2 := by rw [← hW]; rfl
  have wA : ∀ o i, ¬ (54 + 8 * k ≤ o ∧ o ≤ 60 + 8 * k) → gA W o i = gA w o i := fun o i q => by
    rw [← hW]
    rw [gA_cpA, if_neg (by omega), gA_cpA, if_neg (by omega), gA_cpA, if_neg (by omega), gA_cpA, if_neg (by omega), gA_cpA, if_neg (by omega), gA_cpA, if_neg (by omega), gA_cpA, if_neg (by omega)]
  have cp : ∀ (f g : Nat → Int32) (n i : Nat), i < n → va_cpy f g 0 0 n i = f i := fun f g n i hi => by
    rw [pk_cpy_in (Nat.zero_le _) (by omega)]
    congr 1
    omega
  have wN : ∀ j i, 1 ≤ j → j ≤ 7 → i < stLen j → gA W (53 + 8 * k + j) i = gA w (53 + 8 * k1 + j) i := fun j i h1 h2 hi => by
    rw [← hW]
    have hs : stLen j = if j = 7 then 80 else 6 := rfl
    rcases (show j = 1 ∨ j = 2 ∨ j = 3 ∨ j = 4 ∨ j = 5 ∨ j = 6 ∨ j = 7 by omega) with rfl | rfl | rfl | rfl | rfl | rfl | rfl
    · rw [gA_cpA, if_neg (by omega), gA_cpA, if_neg (by omega), gA_cpA, if_neg (by omega), gA_cpA, if_neg (by omega), gA_cpA, if_neg (by omega), gA_cpA, if_neg (by omega), gA_cpA, if_pos rfl]
      exact cp _ _ 6 i hi
    · rw [gA_cpA, if_neg (by omega), gA_cpA, if_neg (by omega), gA_cpA, if_neg (by omega), gA_cpA, if_neg (by omega), gA_cpA, if_neg (by omega), gA_cpA, if_pos rfl, cp _ _ 6 i hi]
      rw [gA_cpA, if_neg (by omega)]
    · rw [gA_cpA, if_neg (by omega), gA_cpA, if_neg (by omega), gA_cpA, if_neg (by omega), gA_cpA, if_neg (by omega), gA_cpA, if_pos rfl, cp _ _ 6 i hi]
      rw [gA_cpA, if_neg (by omega), gA_cpA, if_neg (by omega)]
    · rw [gA_cpA, if_neg (by omega), gA_cpA, if_neg (by omega), gA_cpA, if_neg (by omega), gA_cpA, if_pos rfl, cp _ _ 6 i hi]
      rw [gA_cpA, if_neg (by omega), gA_cpA, if_neg (by omega), gA_cpA, if_neg (by omega)]
    · rw [gA_cpA, if_neg (by omega), gA_cpA, if_neg (by omega), gA_cpA, if_pos rfl, cp _ _ 6 i hi]
      rw [gA_cpA, if_neg (by omega), gA_cpA, if_neg (by omega), gA_cpA, if_neg (by omega), gA_cpA, if_neg (by omega)]
    · rw [gA_cpA, if_neg (by omega), gA_cpA, if_pos rfl, cp _ _ 6 i hi]
      rw [gA_cpA, if_neg (by omega), gA_cpA, if_neg (by omega), gA_cpA, if_neg (by omega), gA_cpA, if_neg (by omega), gA_cpA, if_neg (by omega)]
    · rw [gA_cpA, if_pos rfl, cp _ _ 80 i hi]
      rw [gA_cpA, if_neg (by omega), gA_cpA, if_neg (by omega), gA_cpA, if_neg (by omega), gA_cpA, if_neg (by omega), gA_cpA, if_neg (by omega), gA_cpA, if_neg (by omega)]
  clear hW
  intro y1 e1 y2 e2
  unfold wp_X7_ban
  rw [wI] at e1
  rw [gI_sI, if_neg (by omega), wI] at e2
  refine h _ (fun o i q => ?_) (fun o i q => ?_) ?_ (fun j i h1 h2 hi => ?_) (fun i h1 h2 => ?_)
  · exact wA o i q
  · simp only [gI_sI]
    rw [if_neg (fun c => q c.1), if_neg (fun c => q c.1), if_neg (fun c => q c.1), if_neg (fun c => q c.1), if_neg (fun c => q c.1), wI]
  · exact wD
  · exact wN j i h1 h2 hi
  · have hne : ¬ 53 + 8 * k1 = 53 + 8 * k := by omega
    simp only [gI_sI, hne, false_and, if_false, true_and, wI]
    rcases (show i = 7 ∨ i = 8 ∨ i = 9 ∨ i = 10 ∨ i = 11 by omega) with rfl | rfl | rfl | rfl | rfl
    · simp [e1]
    · simp [e2]
    · simp
    · simp
    · simp
theorem CDR_copy {w w' : Wd} {k k1 : Nat} {g : Gm} {r : Rs} (hn : g.n ≤ 6) (hA : ∀ j i, 1 ≤ j → j ≤ 7 → i < stLen j → gA w' (53 + 8 * k + j) i = gA w (53 + 8 * k1 + j) i) (hI : ∀ i, 7 ≤ i → i ≤ 11 → gI w' (53 + 8 * k) i = gI w (53 + 8 * k1) i) (h1 : CD w k1 g) (h2 : CR w k1 g.n r) : CD w' k g ∧ CR w' k g.n r := by
  have e : ∀ j i, 1 ≤ j → j ≤ 7 → i < stLen j → gA w' (53 + j + 8 * k) i = gA w (53 + j + 8 * k1) i := fun j i a b c => by
    have := hA j i a b c
    rw [show 53 + j + 8 * k = 53 + 8 * k + j by omega, show 53 + j + 8 * k1 = 53 + 8 * k1 + j by omega]
    exact this
  have s6 : ∀ j, j ≠ 7 → stLen j = 6 := fun j q => if_neg q
  obtain ⟨r1, r2, r3, r4, r5, r6, r7, r8⟩ := h2
  refine ⟨fun l hl => ⟨(e 1 l (by omega) (by omega) (by rw [s6 1 (by omega)]; omega)).trans (h1 l hl).1, (e 2 l (by omega) (by omega) (by rw [s6 2 (by omega)]; omega)).trans (h1 l hl).2⟩, fun l hl => ⟨(e 3 l (by omega) (by omega) (by rw [s6 3 (by omega)]; omega)).trans (r1 l hl).1, (e 4 l (by omega) (by omega) (by rw [s6 4 (by omega)]; omega)).trans (r1 l hl).2⟩, fun i hi => ⟨(e 5 i (by omega) (by omega) (by rw [s6 5 (by omega)]; omega)).trans (r2 i hi).1, (e 6 i (by omega) (by omega) (by rw [s6 6 (by omega)]; omega)).trans (r2 i hi).2⟩, (hI 7 (by omega) (by omega)).trans r3, (hI 8 (by omega) (by omega)).trans r4, (hI 9 (by omega) (by omega)).trans r5, (hI 10 (by omega) (by omega)).trans r6, (hI 11 (by omega) (by omega)).trans r7, fun i hi ha => (e 7 i (by omega) (by omega) hi).trans (r8 i hi ha)⟩
def Sy.sp (S : Sy) (p : Ps) : Sy := (p, S.2)
def keepS (S : Sy) : Sy := (S.1, (if S.d < 10 then S.d + 1 else 10, fun i => if i = 0 then S.p else S.H (i - 1)), S.2.2)
def undoS (S : Sy) : Sy := (S.H 0, (S.d - 1, fun i => S.H (i + 1)), S.2.2)
def saveS (S : Sy) (k : Nat) : Sy := (S.1, S.2.1, (fun i => if i = k then true else S.sv i, fun i => if i = k then S.p else S.T i), S.2.2.2)
def restS (S : Sy) (k : Nat) : Sy := (S.T k, (0, S.H), S.2.2)
theorem GC.CD0 {w : Wd} {g : Gm} (h : GC w g) : CD w 0 g := fun l hl => ⟨(h.2.1 l hl).2.2.2.1, (h.2.1 l hl).2.2.2.2⟩
theorem GC.same {w w' : Wd} {g : Gm} (h : GC w g) (eI : ∀ k, gI w' 34 k = gI w 34 k) (eV : ∀ o k, 41 ≤ o → o < 53 → gI w' o k = gI w o k) (eA : ∀ o i, o < 56 → o ≠ 14 → gA w' o i = gA w o i) : GC w' g := by
  obtain ⟨h1, h2, h3, h4⟩ := h
  refine ⟨(eI 6).trans h1, fun l hl => ?_, fun i hi => (eA 6 i (by omega) (by decide)).trans (h3 i hi), fun k hk => ?_⟩
  · obtain ⟨a1, a2, a3, a4, a5⟩ := h2 l hl
    exact ⟨(eA 35 l (by omega) (by decide)).trans a1, (eA 36 l (by omega) (by decide)).trans a2, (eA 37 l (by omega) (by decide)).trans a3, (eA 54 l (by omega) (by decide)).trans a4, (eA 55 l (by omega) (by decide)).trans a5⟩
  · obtain ⟨cc', z', l', f', ⟨a1, a2, a3, a4, a5, a6⟩, hr⟩ := h4 k hk
    exact ⟨cc', z', l', f', ⟨(eV _ _ (by omega) (by omega)).trans a1, (eV _ _ (by omega) (by omega)).trans a2, (eV _ _ (by omega) (by omega)).trans a3, (eV _ _ (by omega) (by omega)).trans a4, a5, fun r hr => (eA _ _ (by omega) (by omega)).trans (a6 r hr)⟩, hr⟩
/-- the game with other coins and locks, after they were copied -/
theorem GC.swap {w w' : Wd} {g g' : Gm} (h : GC w g) (hs : sameS g g') (hD : CD w' 0 g') (eI : ∀ k, gI w' 34 k = gI w 34 k) (eV : ∀ o k, 41 ≤ o → o < 53 → gI w' o k = gI w o k) (eA : ∀ o i, o < 54 → gA w' o i = gA w o i) : GC w' g' := by
  obtain ⟨h1, h2, h3, h4⟩ := h
  obtain ⟨s1, s2, s3, s4⟩ := hs
  refine ⟨(eI 6).trans (by rw [s1]; exact h1), fun l hl => ?_, fun i hi => (eA 6 i (by omega)).trans (h3 i hi), fun k hk => ?_⟩
  · obtain ⟨a1, a2, a3, a4, a5⟩ := h2 l (by rw [← s1]; exact hl)
    rw [s2, s3, s4]
    exact ⟨(eA 35 l (by omega)).trans a1, (eA 36 l (by omega)).trans a2, (eA 37 l (by omega)).trans a3, (hD l hl).1, (hD l hl).2⟩
  · obtain ⟨cc', z', l', f', ⟨a1, a2, a3, a4, a5, a6⟩, hr⟩ := h4 k hk
    exact ⟨cc', z', l', f', ⟨(eV _ _ (by omega) (by omega)).trans a1, (eV _ _ (by omega) (by omega)).trans a2, (eV _ _ (by omega) (by omega)).trans a3, (eV _ _ (by omega) (by omega)).trans a4, a5, fun r hr => (eA _ _ (by omega)).trans (a6 r hr)⟩, hr⟩
theorem rg0 {nx : Nat} (h : nx < 10) : rgN ((nx + 1) % 10) 0 = nx := by
  unfold rgN
  omega
theorem rgS {nx i : Nat} (h : nx < 10) (hi : i < 9) : rgN ((nx + 1) % 10) (i + 1) = rgN nx i ∧ rgN nx i ≠ nx := by
  unfold rgN
  omega
theorem rg_lt (nx i : Nat) : rgN nx i < 10 := by
  unfold rgN
  omega
theorem rem10 {a : Nat} (h : a < 2 ^ 31) : nI a - nI a / 10 * 10 = nI (a % 10) := pk_rem (d := 10) h (by omega) (by omega)
theorem wh_keep {w : Wd} {b : Nat} {S : Sy} {Post : Wd → Prop} (hS : S.ok b) (hC : CI w S) (h : ∀ w', CI w' (keepS S) → Post w') : wp_X2_keep 0 w Post := by
  obtain ⟨hG, hR, ⟨nx, n1, n2, n3, n4⟩, hT, hB⟩ := hC
  have hn := hS.1.1.1
  have hd := hS.2.1
  unfold wp_X2_keep
  rw [n3, nI_clamp (by omega)]
  refine ⟨pk_in nx 10 n1, ?_⟩
  refine wh_copyState (by omega) (fun w' fA fI fD cA cI y1 e1 y2 e2 => ?_)
  rw [fI 11 4 (by omega), n3, nI_1, rem10 (by omega)] at e1
  subst e1
  rw [gI_sI, if_neg (show ¬ (11 = 11 ∧ 3 = 4) by omega), fI 11 3 (by omega), n2, nI_1] at e2
  have e2' : y2 = nI (if S.d < 10 then S.d + 1 else 10) := by
    rw [e2]
    by_cases q : S.d < 10
    · rw [if_pos q, if_neg (by simp (disch := omega) only [fa_lit, nI_ltI]; omega)]
    · rw [if_neg q, if_pos (by simp (disch := omega) only [fa_lit, nI_ltI]; omega)]
      rfl
  subst e2'
  have hcp := CDR_copy hn cA cI hG.CD0 hR
  refine h _ ⟨?_, ?_, ⟨(nx + 1) % 10, Nat.mod_lt _ (by omega), ?_, ?_, fun i hi => ?_⟩, fun k hk => ?_, ?_⟩
  · exact hG.same (fun k => by rw [gI_sI, if_neg (by omega), gI_sI, if_neg (by omega)]; exact fI 34 k (by omega)) (fun o k q q2 => by rw [gI_sI, if_neg (by omega), gI_sI, if_neg (by omega)]; exact fI o k (by omega)) (fun o i q _ => fA o i (by omega))
  · exact hR.of (fun o i q q2 => fA o i (by omega)) (fun k => by rw [gI_sI, if_neg (by omega), gI_sI, if_neg (by omega)]; exact fI _ k (by omega))
  · rw [gI_sI, if_pos ⟨rfl, rfl⟩]
    rfl
  · rw [gI_sI, if_neg (by omega), gI_sI, if_pos ⟨rfl, rfl⟩]
  · cases i with
    | zero =>
      rw [rg0 n1, show 1 + nx = nx + 1 by omega]
      show CD _ (nx + 1) S.g ∧ CR _ (nx + 1) S.g.n S.r
      exact ⟨hcp.1.of (fun _ _ _ _ => rfl), hcp.2.of (fun _ _ _ _ => rfl) (fun k => by rw [gI_sI, if_neg (by omega), gI_sI, if_neg (by omega)])⟩
    | succ i =>
      have hi : i + 1 < if S.d < 10 then S.d + 1 else 10 := hi
      have hi2 : i < S.d ∧ i < 9 := by
        by_cases q : S.d < 10
        · rw [if_pos q] at hi; omega
        · rw [if_neg q] at hi; omega
      obtain ⟨r1, r2⟩ := rgS n1 hi2.2
      have r3 := rg_lt nx i
      rw [r1]
      show CD _ (1 + rgN nx i) (S.H i).1 ∧ CR _ (1 + rgN nx i) (S.H i).1.n (S.H i).2
      exact ⟨(n4 i hi2.1).1.of (fun o j q q2 => fA o j (by omega)), (n4 i hi2.1).2.of (fun o j q q2 => fA o j (by omega)) (fun k => by rw [gI_sI, if_neg (by omega), gI_sI, if_neg (by omega)]; exact fI _ k (by omega))⟩
  · refine ⟨(fA 14 k (by omega)).trans (hT k hk).1, fun hs => ⟨((hT k hk).2 hs).1.of (fun o j q q2 => fA o j (by omega)), ((hT k hk).2 hs).2.of (fun o j q q2 => fA o j (by omega)) (fun k => by rw [gI_sI, if_neg (by omega), gI_sI, if_neg (by omega)]; exact fI _ k (by omega))⟩⟩
  · exact ⟨by rw [gI_sI, if_neg (by omega), gI_sI, if_neg (by omega)]; exact (fI 1 1 (by omega)).trans hB.1, fun i hi => (fA 2 i (by omega)).trans (hB.2 i hi)⟩
theorem wh_goBack {w : Wd} {b : Nat} {S : Sy} {Post : Int32 → Wd → Prop} (hS : S.ok b) (hC : CI w S) (h0 : S.d = 0 → Post (-1) w) (h : ∀ w', 0 < S.d → CI w' (undoS S) → Post (nI (S.d - 1)) w') : wp_X2_goBack 0 w Post := by
  obtain ⟨hG, hR, ⟨nx, n1, n2, n3, n4⟩, hT, hB⟩ := hC
  have hd := hS.2.1
  unfold wp_X2_goBack
  rw [n2, n3]
  refine ⟨fun c => h0 (nI_inj (b := 0) (by omega) (by omega) c), fun c => ?_⟩
  have hpos : 0 < S.d := Nat.pos_of_ne_zero (fun q => c (by rw [q]; rfl))
  obtain ⟨hok, hsm⟩ := hS.2.2.1 0 hpos
  have hrg : (nx + 10 - 1) % 10 = rgN nx 0 := by unfold rgN; omega
  have r3 := rg_lt nx 0
  intro y1 e1
  have e1' : y1 = nI (rgN nx 0) := by
    rw [e1, show nI nx + 10 = nI (nx + 10) from nI_pL nx 10, show nI (nx + 10) - 1 = nI (nx + 10 - 1) from pk_sub (b := 1) (by omega), rem10 (by omega), hrg]
  subst e1'
  rw [show gI (sI w 11 4 (nI (rgN nx 0))) 11 4 = nI (rgN nx 0) by rw [gI_sI, if_pos ⟨rfl, rfl⟩], nI_clamp (by omega)]
  refine ⟨pk_in (rgN nx 0) 10 r3, ?_⟩
  refine wh_copyState (by omega) (fun w' fA fI fD cA cI y2 e2 => ?_)
  have fI' : ∀ o i, o ≠ 53 → ¬ (o = 11 ∧ i = 4) → gI w' o i = gI w o i := fun o i q q2 => by
    rw [fI o i (by omega), gI_sI, if_neg q2]
  have fA' : ∀ o i, ¬ (54 ≤ o ∧ o ≤ 60) → gA w' o i = gA w o i := fun o i q => by
    rw [fA o i (by omega)]
    rfl
  rw [fI' 11 3 (by omega) (by omega), n2, show nI S.d - 1 = nI (S.d - 1) from pk_sub (b := 1) hpos] at e2
  subst e2
  rw [gI_sI, if_pos ⟨rfl, rfl⟩]
  have q4 := n4 0 hpos
  rw [show 1 + rgN nx 0 = rgN nx 0 + 1 by omega] at q4
  have hcp := CDR_copy (w := w) (w' := w') (k := 0) (k1 := rgN nx 0 + 1) hok.1.1 cA (fun i a c => by rw [cI i a c, gI_sI, if_neg (by omega)]) q4.1 q4.2
  refine h _ hpos ⟨?_, ?_, ⟨rgN nx 0, r3, ?_, ?_, fun i hi => ?_⟩, fun k hk => ?_, ?_⟩
  · exact (hG.swap hsm hcp.1 (fun k => fI' 34 k (by omega) (by omega)) (fun o k q q2 => fI' o k (by omega) (by omega)) (fun o i q => fA' o i (by omega))).same (fun k => by rw [gI_sI, if_neg (by omega)]) (fun o k q q2 => by rw [gI_sI, if_neg (by omega)]) (fun _ _ _ _ => rfl)
  · exact hcp.2.of (fun _ _ _ _ => rfl) (fun k => by rw [gI_sI, if_neg (by omega)])
  · rw [gI_sI, if_pos ⟨rfl, rfl⟩]
    rfl
  · rw [gI_sI, if_neg (by omega), fI 11 4 (by omega), gI_sI, if_pos ⟨rfl, rfl⟩]
  · have hi : i < S.d - 1 := hi
    have e : rgN (rgN nx 0) i = rgN nx (i + 1) := by
      unfold rgN
      omega
    have r4 := rg_lt nx (i + 1)
    rw [e]
    show CD _ (1 + rgN nx (i + 1)) (S.H (i + 1)).1 ∧ CR _ (1 + rgN nx (i + 1)) (S.H (i + 1)).1.n (S.H (i + 1)).2
    have := n4 (i + 1) (by omega)
    exact ⟨this.1.of (fun o j q q2 => fA' o j (by omega)), this.2.of (fun o j q q2 => fA' o j (by omega)) (fun k => by rw [gI_sI, if_neg (by omega)]; exact fI' _ k (by omega) (by omega))⟩
  · refine ⟨(fA' 14 k (by omega)).trans (hT k hk).1, fun hs => ⟨((hT k hk).2 hs).1.of (fun o j q q2 => fA' o j (by omega)), ((hT k hk).2 hs).2.of (fun o j q q2 => fA' o j (by omega)) (fun k => by rw [gI_sI, if_neg (by omega)]; exact fI' _ k (by omega) (by omega))⟩⟩
  · exact ⟨by rw [gI_sI, if_neg (by omega)]; exact (fI' 1 1 (by omega) (by omega)).trans hB.1, fun i hi => (fA' 2 i (by omega)).trans (hB.2 i hi)⟩
theorem nar1 : vp_nar .boolean 1 = 1 := by decide
theorem nar0 : vp_nar .boolean 0 = 0 := by decide
theorem ix2 {x : Int32} (h0 : ¬ x < 0) (h2 : x < 2) : ∃ k, k < 2 ∧ x = nI k := by
  rcases pk_ix x (n := 2) (by omega) with q | q | q
  · exact absurd q h0
  · rw [fa_le] at q
    rw [fa_lt] at h2
    have : (nI 2).toInt = (2 : Int32).toInt := rfl
    omega
  · exact q

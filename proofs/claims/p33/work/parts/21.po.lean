/-! pure: what the constructors' tails come to -/
theorem po_up {σ : Type} (J I : Nat → σ → Prop) (n : Nat) (exit : ∀ s, I n s → J n s) (step : ∀ i s, i < n → I i s → (∀ s', I (i + 1) s' → J (i + 1) s') → J i s) : ∀ i, i ≤ n → ∀ s, I i s → J i s := by
  suffices h : ∀ k i, i + k = n → ∀ s, I i s → J i s from fun i hi s hs => h (n - i) i (by omega) s hs
  intro k
  induction k with
  | zero => intro i hi s hs; obtain rfl : i = n := by omega
            exact exit s hs
  | succ k ih => intro i hi s hs; exact step i s (by omega) hs (fun s' hs' => ih (i + 1) (by omega) s' hs')
theorem sA_sF (w : Wd) (o i : Nat) (f : Nat → Int32) (x : Int32) : sA (sF w o f) o i x = sF w o (upd f i x) := by
  refine Prod.ext rfl (Prod.ext ?_ rfl)
  funext o'
  show va_up (va_up w.2.1 o f) o (upd (va_up w.2.1 o f o) i x) o' = va_up w.2.1 o (upd f i x) o'
  by_cases h : o' = o
  · subst h
    simp [va_up]
  · simp [va_up, h]
theorem sF_self (w : Wd) (o : Nat) : sF w o (gA w o) = w := by
  refine Prod.ext rfl (Prod.ext ?_ rfl)
  funext o'
  show va_up w.2.1 o (w.2.1 o) o' = w.2.1 o'
  by_cases h : o' = o
  · subst h
    simp [va_up]
  · simp [va_up, h]
theorem po_upd (g : Nat → Int32) (v : Int32) (i : Nat) : upd (fun j => if j < i then v else g j) i v = fun j => if j < i + 1 then v else g j := by
  funext j
  by_cases h : j = i
  · subst h
    rw [pk_us]
    simp
  · rw [pk_un h]
    by_cases h2 : j < i
    · rw [if_pos h2, if_pos (by omega)]
    · rw [if_neg h2, if_neg (by omega)]
theorem po_fill (o n : Nat) (hn : n < 2 ^ 31) (w : Wd) (v : Int32) (Post : Wd → Prop) (h : Post (sF w o (fun i => if i < n then v else gA w o i))) : wp_J7_fill_53178 o n w v Post := by
  unfold wp_J7_fill_53178
  intro J hJ y hy
  subst hy
  refine po_up (fun i s => J (nI i) (nI n) s) (fun i s => s = sF w o (fun j => if j < i then v else gA w o j)) n ?_ ?_ 0 (by omega) w ?_
  · intro s hs
    subst hs
    refine hJ _ _ _ ⟨fun _ => h, fun q => absurd (nI_le (Nat.le_refl n) hn) q⟩
  · intro i s hi hs k
    subst hs
    refine hJ _ _ _ ⟨fun q => absurd q (nI_ge hi hn), fun _ => ⟨pk_in i n hi rfl hn, ?_⟩⟩
    intro y hy
    subst hy
    rw [nI_1]
    refine k _ ?_
    rw [nI_clamp (by omega), sA_sF, po_upd]
  · rw [show (fun j => if j < 0 then v else gA w o j) = gA w o from funext fun j => if_neg (by omega), sF_self]
theorem pt_X7_init (w : Wd) (h1 : gI w 53 7 = 0) (h2 : gI w 53 8 = 0) (h3 : ∀ i, gA w 59 i = 0) : wt_X7_init w (fun w => gI w 53 7 = 0 ∧ gI w 53 8 = 0 ∧ gI w 53 9 = -1 ∧ gI w 53 10 = -1 ∧ gI w 53 11 = -1 ∧ (∀ i, i < 6 → gA w 58 i = 1) ∧ (∀ i, gA w 59 i = 0)) := by
  unfold wt_X7_init
  refine po_fill _ _ (by decide) _ _ _ (po_fill _ _ (by decide) _ _ _ ?_)
  unfold wp_X7_ban
  refine ⟨?_, ?_, ?_, ?_, ?_, ?_, ?_⟩
  · simpa [gI_sI, gI_sF] using h1
  · simpa [gI_sI, gI_sF] using h2
  · simp [gI_sI]
  · simp [gI_sI]
  · simp [gI_sI]
  · intro i hi
    simp [gA_sI, gA_sF, hi]
  · intro i
    simpa [gA_sI, gA_sF] using h3 i
def posT : List Nat := (List.range 13).flatMap fun t => (if t = 0 then [0] else List.range t).flatMap fun m => (if m = 0 then [0] else List.range m).map fun l => ((2 ^ t ||| 2 ^ m ||| 2 ^ l) / 2 * 2)
def po_pv (t m l : Nat) : Int32 := ((((1 : Int32) <<< (nI t &&& 31)) ||| ((1 : Int32) <<< (nI m &&& 31))) ||| ((1 : Int32) <<< (nI l &&& 31))) &&& ((-2))
/-- the enumeration, checked: place 0: the tops' loop, 1: the middles', 2: the lows' -/
def po_run : Nat → Nat → Nat → Nat → Nat → Nat → Bool
  | 0, _, _, _, _, _ => false
  | F + 1, pc, r, t, m, l => decide (r < 400 ∧ t < 40 ∧ m < 40 ∧ l < 40) && (if pc = 0 then (if 12 < t then r == 299 else po_run F 1 r t 0 0)
    else if pc = 1 then (if m = 0 then po_run F 2 r t m 0 else if t ≤ m then po_run F 0 r (t + 1) 0 0 else po_run F 2 r t m 0)
    else (if l ≠ 0 ∧ m ≤ l then po_run F 1 r t (m + 1) 0 else decide (r < 299) && (decide (po_pv t m l = nI (posT.getD r 0)) && po_run F 2 (r + 1) t m (l + 1))))
set_option maxRecDepth 100000 in
theorem po_runs_yes : po_run 1000 0 0 0 0 0 = true := by decide +kernel
theorem pt_X4_init (w : Wd) : wt_X4_init w (fun w => ∀ r, r < 299 → gA w 6 r = nI (posT.getD r 0)) := by
  unfold wt_X4_init
  intro J25 J33 J45 h25 h33 h45
  have key : ∀ F pc r t m l (w : Wd), po_run F pc r t m l = true → (∀ i, i < r → gA w 6 i = nI (posT.getD i 0)) → (pc = 0 → J25 (nI r) (nI t) w) ∧ (pc = 1 → J33 (nI r) (nI t) (nI m) w) ∧ (pc = 2 → J45 (nI r) (nI t) (nI m) (nI l) w) := by
    intro F
    induction F with
    | zero => intro pc r t m l w h; exact absurd h (by simp [po_run])
    | succ F ih =>
      intro pc r t m l w h hw
      unfold po_run at h
      rw [Bool.and_eq_true, decide_eq_true_eq] at h
      obtain ⟨⟨b1, b2, b3, b4⟩, h⟩ := h
      refine ⟨fun e => ?_, fun e => ?_, fun e => ?_⟩
      · subst e
        rw [if_pos rfl] at h
        refine h25 _ _ _ ⟨fun c => ?_, fun c => ?_⟩
        · simp (disch := omega) only [fa_lit, nI_ltI] at c
          rw [if_pos c] at h
          have h := of_decide_eq_true h
          subst h
          exact hw
        · simp (disch := omega) only [fa_lit, nI_ltI] at c
          rw [if_neg c] at h
          exact (ih 1 r t 0 0 w h hw).2.1 rfl
      · subst e
        rw [if_neg (by decide), if_pos rfl] at h
        refine h33 _ _ _ _ ⟨fun c => ?_, fun c => ?_⟩
        · simp (disch := omega) only [fa_lit, nI_eq] at c
          rw [if_pos c] at h
          exact (ih 2 r t m 0 w h hw).2.2 rfl
        · simp (disch := omega) only [fa_lit, nI_eq] at c
          rw [if_neg c] at h
          refine ⟨fun d y hy => ?_, fun d => ?_⟩
          · simp (disch := omega) only [nI_leI] at d
            rw [if_pos d] at h
            subst hy
            rw [nI_1]
            exact (ih 0 r (t + 1) 0 0 w h hw).1 rfl
          · simp (disch := omega) only [nI_leI] at d
            rw [if_neg d] at h
            exact (ih 2 r t m 0 w h hw).2.2 rfl
      · subst e
        rw [if_neg (by decide), if_neg (by decide)] at h
        have put : ¬ (l ≠ 0 ∧ m ≤ l) → (299 ≤ nI r → (∀ y2 : Int32, y2 = nI m + 1 → (J33 (nI r) (nI t) y2 w))) ∧ (¬ 299 ≤ nI r → (∀ y3 : Int32, y3 = ((((1 : Int32) <<< (nI t &&& 31)) ||| ((1 : Int32) <<< (nI m &&& 31))) ||| ((1 : Int32) <<< (nI l &&& 31))) &&& ((-2)) → (vp_in (nI r) 299 ∧ (∀ y4 : Int32, y4 = nI r + 1 → (∀ y5 : Int32, y5 = nI l + 1 → (J45 y4 (nI t) (nI m) y5 (sA w 6 (nI r).toNatClampNeg y3))))))) := by
          intro c
          rw [if_neg c, Bool.and_eq_true, Bool.and_eq_true, decide_eq_true_eq, decide_eq_true_eq] at h
          obtain ⟨b5, hv, h⟩ := h
          refine ⟨fun d => ?_, fun d y hy => ⟨pk_in r 299 b5 rfl (by omega), fun y4 hy4 y5 hy5 => ?_⟩⟩
          · simp (disch := omega) only [fa_lit, nI_leI] at d
            omega
          · subst hy4
            subst hy5
            rw [nI_1, nI_1]
            refine (ih 2 (r + 1) t m (l + 1) _ h ?_).2.2 rfl
            intro i hi
            rw [gA_sA, nI_clamp (by omega), hy]
            by_cases hir : i = r
            · subst hir
              rw [if_pos ⟨rfl, rfl⟩]
              exact hv
            · rw [if_neg (fun q => hir q.2)]
              exact hw i (by omega)
        refine h45 _ _ _ _ _ ⟨fun c => ?_, fun c => ?_⟩
        · simp (disch := omega) only [fa_lit, nI_eq] at c
          exact put (by omega)
        · simp (disch := omega) only [fa_lit, nI_eq] at c
          refine ⟨fun d y hy => ?_, fun d => ?_⟩
          · simp (disch := omega) only [nI_leI] at d
            rw [if_pos ⟨c, d⟩] at h
            subst hy
            rw [nI_1]
            exact (ih 1 r t (m + 1) 0 w h hw).2.1 rfl
          · simp (disch := omega) only [nI_leI] at d
            exact put (by omega)
  exact (key 1000 0 0 0 0 0 w po_runs_yes (fun i hi => absurd hi (by omega))).1 rfl

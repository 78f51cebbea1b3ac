/-! ONE WORLD: every object of the class and of the reference, by a number o < 157: at the address eA E o lies what ce E w o says, of the numbers w (int fields w.1 o k, int-like arrays w.2.1 o i, longs, doubles). Methods' contracts speak of the whole world: no frames. -/
abbrev Wd : Type := (Nat → Nat → Int32) × (Nat → Nat → Int32) × (Nat → Nat → Int64) × (Nat → Nat → UInt64)
def gI (w : Wd) (o k : Nat) : Int32 := w.1 o k
def gA (w : Wd) (o i : Nat) : Int32 := w.2.1 o i
def gL (w : Wd) (o i : Nat) : Int64 := w.2.2.1 o i
def gD (w : Wd) (o i : Nat) : UInt64 := w.2.2.2 o i
def sI (w : Wd) (o k : Nat) (x : Int32) : Wd := (va_up w.1 o (upd (w.1 o) k x), w.2)
def sF (w : Wd) (o : Nat) (f : Nat → Int32) : Wd := (w.1, va_up w.2.1 o f, w.2.2)
def sA (w : Wd) (o i : Nat) (x : Int32) : Wd := sF w o (upd (w.2.1 o) i x)
def sL (w : Wd) (o i : Nat) (x : Int64) : Wd := (w.1, w.2.1, va_up w.2.2.1 o (vp_updL (w.2.2.1 o) i x), w.2.2.2)
def sD (w : Wd) (o i : Nat) (x : UInt64) : Wd := (w.1, w.2.1, w.2.2.1, va_up w.2.2.2 o (vf_upd (w.2.2.2 o) i x))
theorem gI_sI (w : Wd) (o k o' k' : Nat) (x : Int32) : gI (sI w o k x) o' k' = if o' = o ∧ k' = k then x else gI w o' k' := by
  unfold gI sI va_up upd
  by_cases h : o' = o
  · subst h
    by_cases h2 : k' = k <;> simp [h2]
  · simp [h]
theorem gI_sF (w : Wd) (o o' k' : Nat) (f : Nat → Int32) : gI (sF w o f) o' k' = gI w o' k' := rfl
theorem gI_sA (w : Wd) (o i o' k' : Nat) (x : Int32) : gI (sA w o i x) o' k' = gI w o' k' := rfl
theorem gI_sL (w : Wd) (o i o' k' : Nat) (x : Int64) : gI (sL w o i x) o' k' = gI w o' k' := rfl
theorem gI_sD (w : Wd) (o i o' k' : Nat) (x : UInt64) : gI (sD w o i x) o' k' = gI w o' k' := rfl
theorem gA_sI (w : Wd) (o k o' i' : Nat) (x : Int32) : gA (sI w o k x) o' i' = gA w o' i' := rfl
theorem gA_sF (w : Wd) (o o' i' : Nat) (f : Nat → Int32) : gA (sF w o f) o' i' = if o' = o then f i' else gA w o' i' := by
  unfold gA sF va_up
  by_cases h : o' = o <;> simp [h]
theorem gA_sA (w : Wd) (o i o' i' : Nat) (x : Int32) : gA (sA w o i x) o' i' = if o' = o ∧ i' = i then x else gA w o' i' := by
  unfold gA sA sF va_up upd
  by_cases h : o' = o
  · subst h
    by_cases h2 : i' = i <;> simp [h2]
  · simp [h]
theorem gA_sL (w : Wd) (o i o' i' : Nat) (x : Int64) : gA (sL w o i x) o' i' = gA w o' i' := rfl
theorem gA_sD (w : Wd) (o i o' i' : Nat) (x : UInt64) : gA (sD w o i x) o' i' = gA w o' i' := rfl
theorem gL_sI (w : Wd) (o k o' i' : Nat) (x : Int32) : gL (sI w o k x) o' i' = gL w o' i' := rfl
theorem gL_sF (w : Wd) (o o' i' : Nat) (f : Nat → Int32) : gL (sF w o f) o' i' = gL w o' i' := rfl
theorem gL_sA (w : Wd) (o i o' i' : Nat) (x : Int32) : gL (sA w o i x) o' i' = gL w o' i' := rfl
theorem gL_sL (w : Wd) (o i o' i' : Nat) (x : Int64) : gL (sL w o i x) o' i' = if o' = o ∧ i' = i then x else gL w o' i' := by
  unfold gL sL va_up vp_updL
  by_cases h : o' = o
  · subst h
    by_cases h2 : i' = i <;> simp [h2]
  · simp [h]
theorem gL_sD (w : Wd) (o i o' i' : Nat) (x : UInt64) : gL (sD w o i x) o' i' = gL w o' i' := rfl
theorem gD_sD (w : Wd) (o i o' i' : Nat) (x : UInt64) : gD (sD w o i x) o' i' = if o' = o ∧ i' = i then x else gD w o' i' := by
  unfold gD sD va_up vf_upd
  by_cases h : o' = o
  · subst h
    by_cases h2 : i' = i <;> simp [h2]
  · simp [h]
theorem gD_sI (w : Wd) (o k o' i' : Nat) (x : Int32) : gD (sI w o k x) o' i' = gD w o' i' := rfl
theorem gD_sF (w : Wd) (o o' i' : Nat) (f : Nat → Int32) : gD (sF w o f) o' i' = gD w o' i' := rfl
theorem gD_sA (w : Wd) (o i o' i' : Nat) (x : Int32) : gD (sA w o i x) o' i' = gD w o' i' := rfl
theorem gD_sL (w : Wd) (o i o' i' : Nat) (x : Int64) : gD (sL w o i x) o' i' = gD w o' i' := rfl
/-- what the addresses and class numbers are: D, the array classes, the objects' addresses, the strings' and statics' -/
abbrev En : Type := va_G × (Nat → ClassId) × (Nat → Nat) × (Nat → Nat) × List Nat × (Nat → Prop) × Nat × (Nat → Int32)
def eC (E : En) : Nat → ClassId := E.2.1
def eA (E : En) : Nat → Nat := E.2.2.1
def eT (E : En) : Nat → Nat := E.2.2.2.1
/-- which objects there are -/
def eL (E : En) : List Nat := E.2.2.2.2.1
/-- old cells that are no objects any more (rows that were too short): they too may have been changed -/
def eJ (E : En) : Nat → Prop := E.2.2.2.2.2.1
/-- the law's script: its length, its ints; it lies at eT E 300 -/
def eN (E : En) : Nat := E.2.2.2.2.2.2.1
def eX (E : En) : Nat → Int32 := E.2.2.2.2.2.2.2
def tysE (E : En) : List (ClassId × FieldType) := [(eC E 0, .int), (eC E 1, .byte), (eC E 2, .boolean), (eC E 0, .int), (eC E 0, .int), (eC E 5, .object "CoinLadders$LadderValues"), (eC E 6, .object "CoinLadders$State")]
def Inj (E : En) : Prop := (eL E).Nodup ∧ ∀ i j : Nat, i ∈ eL E → j ∈ eL E → eA E i = eA E j → i = j
def stLen (j : Nat) : Nat := if j = 7 then 80 else 6
def seLen (j : Nat) : Nat := if j = 6 then 3 else 6
def cSt (E : En) (o : Nat) (I : Nat → Int32) : va_E := .inr (7, [.ref (eA E (o + 1)), .ref (eA E (o + 2)), .ref (eA E (o + 3)), .ref (eA E (o + 4)), .ref (eA E (o + 5)), .ref (eA E (o + 6)), .ref (eA E (o + 7)), .int (I 7), .int (I 8), .int (I 9), .int (I 10), .int (I 11)])
def cSe (E : En) (o : Nat) (I : Nat → Int32) : va_E := .inr (6, [.ref (eA E (o + 1)), .ref (eA E (o + 2)), .ref (eA E (o + 3)), .ref (eA E (o + 4)), .ref (eA E (o + 5)), .ref (eA E (o + 6)), .int (I 6), .int (I 7)])
def cLv (E : En) (o : Nat) (I : Nat → Int32) : va_E := .inr (3, [.ref (eA E (o + 1)), .int (I 1), .int (I 2), .int (I 3), .int (I 4)])
def cFx (E : En) (o : Nat) (I A : Nat → Int32) (L : Nat → Int64) (Dd : Nat → UInt64) : va_E := match o with
  | 0 => .inr (8, [.ref (eA E 1), .ref (eA E 3), .ref (eA E 11)])
  | 1 => .inr (1, [.ref (eA E 27), .int (I 1), .ref (eA E 2), .int (I 3), .int (I 4), .int (I 5), .int (I 6), .int (I 7), .int (I 8), .int (I 9), .int (I 10)])
  | 2 => .inl (eC E 1, 400, .inl A)
  | 3 => .inr (0, [.ref (eA E 34), .ref (eA E 53), .ref (eA E 8), .ref (eA E 4), .ref (eA E 5), .ref (eA E 10)])
  | 4 => .inl (eC E 0, 72, .inl A)
  | 5 => .inr (4, [.ref (eA E 6), .ref (eA E 7)])
  | 6 => .inl (eC E 0, 299, .inl A)
  | 7 => .inl (eC E 0, 12, .inl A)
  | 8 => .inr (5, [.ref (eA E 9)])
  | 9 => .inl (eC E 0, 299, .inl A)
  | 10 => .inl (eC E 5, 6, .inr (.inr (.inr (.inr (fun j => some (eA E (41 + 2 * j)))))))
  | 11 => .inr (2, [.ref (eA E 12), .ref (eA E 13), .ref (eA E 14), .int (I 3), .int (I 4)])
  | 12 => .inl (eC E 6, 10, .inr (.inr (.inr (.inr (fun j => some (eA E (53 + 8 * (j + 1))))))))
  | 13 => .inl (eC E 6, 2, .inr (.inr (.inr (.inr (fun j => some (eA E (53 + 8 * (j + 11))))))))
  | 14 => .inl (eC E 2, 2, .inl A)
  | 15 => .inr (9, [.ref (eA E 16), .int (I 1), .int (I 2), .int (I 3)])
  | 16 => .inl (eC E 1, (I 0).toNatClampNeg, .inl A)
  | 17 => .inl (eC E 0, 5, .inl A)
  | 18 => .inl (eC E 0, 5, .inl A)
  | 19 => .inl (eC E 0, 5, .inl A)
  | _ => .inl (eC E 0, 5, .inl A)
def cX (E : En) (o : Nat) (I A : Nat → Int32) (L : Nat → Int64) (Dd : Nat → UInt64) : va_E :=
  if 53 ≤ o then (if (o - 53) % 8 = 0 then cSt E o I else .inl (eC E 0, stLen ((o - 53) % 8), .inl A))
  else if 41 ≤ o then (if (o - 41) % 2 = 0 then cLv E o I else .inl (eC E 0, 299, .inl A))
  else if 27 ≤ o then (if (o - 27) % 7 = 0 then cSe E o I else .inl (eC E 0, seLen ((o - 27) % 7), .inl A))
  else cFx E o I A L Dd
def ce (E : En) (w : Wd) (o : Nat) : va_E := cX E o (w.1 o) (w.2.1 o) (w.2.2.1 o) (w.2.2.2 o)
theorem ce_st {E : En} {w : Wd} {k : Nat} (_hk : k < 13) : ce E w (53 + 8 * k) = cSt E (53 + 8 * k) (gI w (53 + 8 * k)) := by
  unfold ce cX
  rw [if_pos (by omega), if_pos (by omega)]
  rfl
theorem ce_sta {E : En} {w : Wd} {k : Nat} (j : Nat) (_hk : k < 13) (h1 : 1 ≤ j) (h2 : j ≤ 7) : ce E w (53 + 8 * k + j) = .inl (eC E 0, stLen j, .inl (w.2.1 (53 + 8 * k + j))) := by
  unfold ce cX
  rw [if_pos (by omega), if_neg (by omega), show (53 + 8 * k + j - 53) % 8 = j by omega]
theorem ce_se {E : En} {w : Wd} {k : Nat} (_hk : k < 2) : ce E w (27 + 7 * k) = cSe E (27 + 7 * k) (gI w (27 + 7 * k)) := by
  unfold ce cX
  rw [if_neg (by omega), if_neg (by omega), if_pos (by omega), if_pos (by omega)]
  rfl
theorem ce_sea {E : En} {w : Wd} {k : Nat} (j : Nat) (_hk : k < 2) (h1 : 1 ≤ j) (h2 : j ≤ 6) : ce E w (27 + 7 * k + j) = .inl (eC E 0, seLen j, .inl (w.2.1 (27 + 7 * k + j))) := by
  unfold ce cX
  rw [if_neg (by omega), if_neg (by omega), if_pos (by omega), if_neg (by omega), show (27 + 7 * k + j - 27) % 7 = j by omega]
theorem ce_lv {E : En} {w : Wd} {k : Nat} (_hk : k < 6) : ce E w (41 + 2 * k) = cLv E (41 + 2 * k) (gI w (41 + 2 * k)) := by
  unfold ce cX
  rw [if_neg (by omega), if_pos (by omega), if_pos (by omega)]
  rfl
theorem ce_lva {E : En} {w : Wd} {k : Nat} (_hk : k < 6) : ce E w (41 + 2 * k + 1) = .inl (eC E 0, 299, .inl (w.2.1 (41 + 2 * k + 1))) := by
  unfold ce cX
  rw [if_neg (by omega), if_pos (by omega), if_neg (by omega)]
def wsE (E : En) (w : Wd) : va_W := (eL E).map (fun o => (eA E o, ce E w o))
theorem ws_i {E : En} {w : Wd} {k o : Nat} (h : (eL E)[k]? = some o) : (wsE E w)[k]? = some (eA E o, ce E w o) := by
  unfold wsE
  rw [List.getElem?_map, h]
  rfl
theorem ws_of {E : En} {w : Wd} {k : Nat} {q : Nat × va_E} (h : (wsE E w)[k]? = some q) : ∃ o, (eL E)[k]? = some o ∧ q = (eA E o, ce E w o) := by
  unfold wsE at h
  rw [List.getElem?_map] at h
  cases ho : (eL E)[k]? with
  | none => rw [ho] at h; cases h
  | some o =>
    rw [ho] at h
    exact ⟨o, rfl, (Option.some.inj h).symm⟩
theorem nd_at : ∀ {l : List Nat}, l.Nodup → ∀ {i j o : Nat}, l[i]? = some o → l[j]? = some o → i = j
  | [], _, i, j, o, hi, _ => by simp at hi
  | a :: l, h, i, j, o, hi, hj => by
    obtain ⟨h1, h2⟩ := List.nodup_cons.mp h
    cases i with
    | zero =>
      cases j with
      | zero => rfl
      | succ j =>
        rw [List.getElem?_cons_zero] at hi
        rw [List.getElem?_cons_succ] at hj
        cases hi
        exact absurd (List.mem_of_getElem? hj) h1
    | succ i =>
      rw [List.getElem?_cons_succ] at hi
      cases j with
      | zero =>
        rw [List.getElem?_cons_zero] at hj
        cases hj
        exact absurd (List.mem_of_getElem? hi) h1
      | succ j =>
        rw [List.getElem?_cons_succ] at hj
        rw [nd_at h2 hi hj]
theorem ws_set {E : En} {w w' : Wd} {o k : Nat} {x : va_E} (hI : Inj E) (h : (eL E)[k]? = some o) (h1 : ce E w' o = x) (h2 : ∀ j, j ≠ o → ce E w' j = ce E w j) : (wsE E w).set k (eA E o, x) = wsE E w' := by
  have hlen : (wsE E w).length = (eL E).length := by simp [wsE]
  have hk : k < (eL E).length := (List.getElem?_eq_some_iff.mp h).1
  apply List.ext_getElem?
  intro j
  by_cases hj : j = k
  · subst hj
    rw [List.getElem?_set_self (by rw [hlen]; exact hk), ws_i h, h1]
  · rw [List.getElem?_set_ne (Ne.symm hj)]
    cases ho : (eL E)[j]? with
    | none =>
      unfold wsE
      rw [List.getElem?_map, List.getElem?_map, ho]
      rfl
    | some o' =>
      have hne : o' ≠ o := fun e => hj (nd_at hI.1 (e ▸ ho) h)
      rw [ws_i ho, ws_i ho, h2 o' hne]
theorem ce_sI {E : En} {w : Wd} {o k j : Nat} {x : Int32} (h : j ≠ o) : ce E (sI w o k x) j = ce E w j := by
  unfold ce sI
  rw [show (va_up w.1 o (upd (w.1 o) k x), w.2).1 j = w.1 j from va_up_ne _ _ h]
theorem ce_sF {E : En} {w : Wd} {o j : Nat} {f : Nat → Int32} (h : j ≠ o) : ce E (sF w o f) j = ce E w j := by
  unfold ce sF
  rw [show (w.1, va_up w.2.1 o f, w.2.2).2.1 j = w.2.1 j from va_up_ne _ _ h]
theorem ce_sL {E : En} {w : Wd} {o i j : Nat} {x : Int64} (h : j ≠ o) : ce E (sL w o i x) j = ce E w j := by
  unfold ce sL
  rw [show (w.1, w.2.1, va_up w.2.2.1 o (vp_updL (w.2.2.1 o) i x), w.2.2.2).2.2.1 j = w.2.2.1 j from va_up_ne _ _ h]
theorem ce_sD {E : En} {w : Wd} {o i j : Nat} {x : UInt64} (h : j ≠ o) : ce E (sD w o i x) j = ce E w j := by
  unfold ce sD
  rw [show (w.1, w.2.1, w.2.2.1, va_up w.2.2.2 o (vf_upd (w.2.2.2 o) i x)).2.2.2 j = w.2.2.2 j from va_up_ne _ _ h]
theorem I_self (w : Wd) (o k : Nat) (x : Int32) : (sI w o k x).1 o = upd (w.1 o) k x := va_up_self _ _ _
theorem A_self (w : Wd) (o : Nat) (f : Nat → Int32) : (sF w o f).2.1 o = f := va_up_self _ _ _
theorem L_self (w : Wd) (o i : Nat) (x : Int64) : (sL w o i x).2.2.1 o = vp_updL (w.2.2.1 o) i x := va_up_self _ _ _
theorem D_self (w : Wd) (o i : Nat) (x : UInt64) : (sD w o i x).2.2.2 o = vf_upd (w.2.2.2 o) i x := va_up_self _ _ _
/-- what a method may change: the world's cells, and what is new -/
def AA (E : En) (sz : Nat) : Nat → Prop := fun q => (∃ o, o ∈ eL E ∧ q = eA E o) ∨ (eJ E q ∨ sz ≤ q)
theorem AA_new {E : En} {sz : Nat} : ∀ q : Nat, sz ≤ q → AA E sz q := fun _ h => Or.inr (Or.inr h)
theorem AA_mono {E : En} {a b : Nat} (h : a ≤ b) : ∀ q : Nat, AA E b q → AA E a q := fun _ hq => hq.elim Or.inl (fun h2 => Or.inr (h2.elim Or.inl (fun h3 => Or.inr (Nat.le_trans h h3))))
theorem ws_D {E : En} {w : Wd} {sz : Nat} (hI : Inj E) : va_D (AA E sz) (wsE E w) := by
  refine ⟨fun i j p q hi hj hpq => ?_, fun k q hk => ?_⟩
  · obtain ⟨a, h1, rfl⟩ := ws_of hi
    obtain ⟨b, h2, rfl⟩ := ws_of hj
    have := hI.2 a b (List.mem_of_getElem? h1) (List.mem_of_getElem? h2) hpq
    subst this
    exact nd_at hI.1 h1 h2
  · obtain ⟨o, h1, rfl⟩ := ws_of hk
    exact Or.inl ⟨o, List.mem_of_getElem? h1, rfl⟩

/-! what stands beside the world and never changes: links among nest mates, the table SETS_BELOW, the strings, what exceptions need -/
def nestW : List Cond := [.methodLinkNest "CoinLadders" 11 ⟨"CoinLadders$GameText", "<init>", "()V"⟩ "CoinLadders", .methodLinkNest "CoinLadders$GameText" 11 ⟨"CoinLadders$Setup", "<init>", "()V"⟩ "CoinLadders", .methodLinkNest "CoinLadders$Game" 11 ⟨"CoinLadders$Setup", "<init>", "()V"⟩ "CoinLadders", .methodLinkNest "CoinLadders$Game" 27 ⟨"CoinLadders$Reach", "<init>", "()V"⟩ "CoinLadders", .methodLinkNest "CoinLadders$Game" 49 ⟨"CoinLadders$LadderValues", "<init>", "()V"⟩ "CoinLadders", .methodLinkNest "CoinLadders$Game" 68 ⟨"CoinLadders", "hasBit", "(II)Z"⟩ "CoinLadders", .methodLinkNest "CoinLadders$Positions" 21 ⟨"CoinLadders", "hasBit", "(II)Z"⟩ "CoinLadders", .methodLinkNest "CoinLadders$Positions" 29 ⟨"CoinLadders", "moved", "(III)I"⟩ "CoinLadders", .methodLinkNest "CoinLadders$LadderValues" 53 ⟨"CoinLadders", "hasBit", "(II)Z"⟩ "CoinLadders", .methodLinkNest "CoinLadders$Game" 136 ⟨"CoinLadders", "moved", "(III)I"⟩ "CoinLadders", .methodLinkNest "CoinLadders$GameText" 126 ⟨"CoinLadders", "hasBit", "(II)Z"⟩ "CoinLadders", .fieldLinkNest "CoinLadders$Positions" 18 "CoinLadders" "SETS_BELOW" "[I" "CoinLadders", .castable "java/lang/IllegalArgumentException" "java/lang/IllegalArgumentException", .castable "java/lang/IndexOutOfBoundsException" "java/lang/IndexOutOfBoundsException", .castable "java/lang/IllegalStateException" "java/lang/IllegalStateException", .declares ⟨"java/lang/RuntimeException", "<init>", "(Ljava/lang/String;)V"⟩, .declares ⟨"java/lang/Exception", "<init>", "(Ljava/lang/String;)V"⟩, .declares ⟨"java/lang/Throwable", "<init>", "(Ljava/lang/String;)V"⟩]
def sbTab : Nat → Int32 := fun j => [0, 1, 2, 3, 4, 5, 6, 7, 8, 9, 10, 11, 12, 0, 1, 2, 4, 7, 11, 16, 22, 29, 37, 46, 56, 67, 0, 1, 2, 4, 8, 15, 26, 42, 64, 93, 130, 176, 232].getD j 0
def strTx : List String := ["length is out of range", "ladder", "steps", "lock", "tokens", "first", "what is out of range", "there is no such ladder", "acts is out of range", "ladder ", " ", " steps ", ";", "lock 0 ", "tokens ", ";first ", "coins cannot lie so", "passing is not allowed"]
def strLen : List Nat := [22, 6, 5, 4, 6, 5, 20, 23, 20, 7, 1, 7, 1, 7, 7, 7, 19, 22]
def strBy : List (List Int32) := [[108, 101, 110, 103, 116, 104, 32, 105, 115, 32, 111, 117, 116, 32, 111, 102, 32, 114, 97, 110, 103, 101], [108, 97, 100, 100, 101, 114], [115, 116, 101, 112, 115], [108, 111, 99, 107], [116, 111, 107, 101, 110, 115], [102, 105, 114, 115, 116], [119, 104, 97, 116, 32, 105, 115, 32, 111, 117, 116, 32, 111, 102, 32, 114, 97, 110, 103, 101], [116, 104, 101, 114, 101, 32, 105, 115, 32, 110, 111, 32, 115, 117, 99, 104, 32, 108, 97, 100, 100, 101, 114], [97, 99, 116, 115, 32, 105, 115, 32, 111, 117, 116, 32, 111, 102, 32, 114, 97, 110, 103, 101], [108, 97, 100, 100, 101, 114, 32], [32], [32, 115, 116, 101, 112, 115, 32], [59], [108, 111, 99, 107, 32, 48, 32], [116, 111, 107, 101, 110, 115, 32], [59, 102, 105, 114, 115, 116, 32], [99, 111, 105, 110, 115, 32, 99, 97, 110, 110, 111, 116, 32, 108, 105, 101, 32, 115, 111], [112, 97, 115, 115, 105, 110, 103, 32, 105, 115, 32, 110, 111, 116, 32, 97, 108, 108, 111, 119, 101, 100]]
/-- the constants: class, place in its pool, which text -/
def strK : List (String × Nat × Nat) := [("CoinLadders", 40, 0), ("CoinLadders$GameText", 60, 1), ("CoinLadders$GameText", 105, 2), ("CoinLadders$GameText", 70, 3), ("CoinLadders$GameText", 75, 4), ("CoinLadders$GameText", 80, 5), ("CoinLadders", 275, 6), ("CoinLadders", 273, 7), ("CoinLadders", 254, 8), ("CoinLaddersLaw", 22, 9), ("CoinLaddersLaw", 31, 10), ("CoinLaddersLaw", 33, 11), ("CoinLaddersLaw", 35, 12), ("CoinLaddersLaw", 37, 13), ("CoinLaddersLaw", 39, 14), ("CoinLaddersLaw", 41, 15), ("CoinLadders", 139, 16), ("CoinLadders", 249, 17)]
/-- the digits as the JDK keeps them -/
def digTab (j : Nat) : Int32 := [48, 49, 50, 51, 52, 53, 54, 55, 56, 57].getD (j % 10) 0
def EE (E : En) (A : Nat → Prop) (U : State) (H : Heap) : Prop :=
  (∀ x ∈ nestW, va_Nw x U) ∧ va_Z "CoinLadders" "SETS_BELOW" "[I" (.ref (eT E 0)) A U H ∧ va_T .int (eT E 0) 39 (fun j => .int (sbTab j)) A U H ∧ vx_Zq Bundle.tN "UNASSIGNED_STACK" Bundle.steD A U H ∧ vx_Zq Bundle.tN "SUPPRESSED_SENTINEL" Bundle.listD A U H ∧ va_Z "java/lang/String" "COMPACT_STRINGS" "Z" (.int 1) A U H ∧ va_Zq "jdk/internal/util/Preconditions" "SIOOBE_FORMATTER" "Ljava/util/function/BiFunction;" A U H ∧ vk_S 18 strLen strBy (fun i => eT E (1 + i)) (fun i => eT E (101 + i)) A U H ∧ (∀ q ∈ strK, vk_R q.1 q.2.1 (strTx.getD q.2.2 "") (eT E (1 + q.2.2)) U) ∧ True ∧ va_AO "CoinLadders$LadderValues" U ∧ va_AO "CoinLadders$State" U ∧ va_Z "java/lang/Integer" "DigitOnes" "[B" (.ref (eT E 301)) A U H ∧ va_T .byte (eT E 301) 100 (fun j => .int (digTab j)) A U H ∧ (¬ A (eT E 300) ∧ va_X (eT E 300) (eN E) (eX E) U H)
theorem nest_warm {s U : State} (hW : s.WarmedH U.vm) (h : ∀ x ∈ nestW, va_Nw x s) : ∀ x ∈ nestW, va_Nw x U := by
  intro x hx
  have h1 := h x hx
  simp only [nestW, List.mem_cons, List.not_mem_nil, or_false] at hx
  rcases hx with rfl | rfl | rfl | rfl | rfl | rfl | rfl | rfl | rfl | rfl | rfl | rfl | rfl | rfl | rfl | rfl | rfl | rfl <;> first | exact va_Nw.warmM hW h1 | exact va_Nw.warmF hW h1 | exact va_Nw.warmC hW h1 | exact va_Nw.warmD hW h1
theorem nest_same {s U : State} (hv : s.vm = U.vm) (h : ∀ x ∈ nestW, va_Nw x s) : ∀ x ∈ nestW, va_Nw x U := by
  intro x hx
  have h1 := h x hx
  simp only [nestW, List.mem_cons, List.not_mem_nil, or_false] at hx
  rcases hx with rfl | rfl | rfl | rfl | rfl | rfl | rfl | rfl | rfl | rfl | rfl | rfl | rfl | rfl | rfl | rfl | rfl | rfl <;> exact va_Nw.same rfl hv h1
theorem vaX_lt {b L : Nat} {xs : Nat → Int32} {U : State} {H : Heap} (h : va_X b L xs U H) : b < H.size := by
  obtain ⟨scr, h1, _⟩ := h
  exact (Array.getElem?_eq_some_iff.mp h1).1
/-- at a call, from the caller's start s to the callee's start U -/
theorem EE.go {E : En} {A B : Nat → Prop} {s U : State} {H : Heap} (h : EE E A s s.heap) (hW : s.WarmedH U.vm) (hq : ∀ a : Nat, a < s.heap.size → ¬ A a → H[a]? = s.heap[a]?) (hAB : ∀ q, B q → A q) : EE E B U H := by
  obtain ⟨h1, h2, h3, h4, h5, h8, h9, h6, h7, h10, h11, h12, h13, h14, h15, h16⟩ := h
  exact ⟨nest_warm hW h1, ((h2.moved hW.alike).kept hq).narrow hAB, ((h3.moved hW.alike).kept hq).narrow hAB, ((h4.moved hW.alike).kept hq).narrow hAB, ((h5.moved hW.alike).kept hq).narrow hAB, ((h8.moved hW.alike).kept hq).narrow hAB, ((h9.moved hW.alike).kept hq).narrow hAB, ((h6.moved hW.alike).kept hq).narrow hAB, fun q hq => (h7 q hq).warm hW, trivial, h11.moved hW.alike, h12.moved hW.alike, ((h13.moved hW.alike).kept hq).narrow hAB, ((h14.moved hW.alike).kept hq).narrow hAB, fun c => h15 (hAB _ c), (h16.moved hW.alike).kept (hq _ (vaX_lt h16) h15)⟩
theorem EE.calling {E : En} {A : Nat → Prop} {U : State} {H : Heap} {g : JFrame} {mk : MethodId} {a : Array Value} (h : EE E A U H) : EE E A (U.calling g mk a) H := by
  obtain ⟨h1, h2, h3, h4, h5, h8, h9, h6, h7, h10, h11, h12, h13, h14, h15, h16⟩ := h
  have hv : U.vm.Alike (U.calling g mk a).vm := Vm.Alike.refl U.vm
  exact ⟨nest_same (s := U) rfl h1, h2.moved hv, h3.moved hv, h4.moved hv, h5.moved hv, h8.moved hv, h9.moved hv, h6.moved hv, fun q hq => vk_R.same (u := U) rfl (h7 q hq), trivial, h11.moved hv, h12.moved hv, h13.moved hv, h14.moved hv, h15, h16.moved hv⟩
/-- the same, of fewer cells -/
theorem EE.less {E E' : En} {A B : Nat → Prop} {U : State} {H : Heap} (h : EE E A U H) (e : E'.2.2.2 = (E.2.2.2.1, E'.2.2.2.2.1, E'.2.2.2.2.2.1, E.2.2.2.2.2.2)) (hAB : ∀ q, B q → A q) : EE E' B U H := by
  obtain ⟨D, cs, u, T, L, j, n, f⟩ := E
  obtain ⟨D', cs', u', T', L', j', n', f'⟩ := E'
  cases e
  obtain ⟨h1, h2, h3, h4, h5, h8, h9, h6, h7, h10, h11, h12, h13, h14, h15, h16⟩ := h
  exact ⟨h1, h2.narrow hAB, h3.narrow hAB, h4.narrow hAB, h5.narrow hAB, h8.narrow hAB, h9.narrow hAB, h6.narrow hAB, h7, h10, h11, h12, h13.narrow hAB, h14.narrow hAB, fun c => h15 (hAB _ c), h16⟩

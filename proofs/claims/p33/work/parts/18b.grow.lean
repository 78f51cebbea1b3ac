/-! the StringBuilder (object 15) and its row of bytes (object 16): the row may move to a new address -/
def eUp (E : En) (a : Nat) : En := (E.1, E.2.1, va_up E.2.2.1 16 a, E.2.2.2.1, E.2.2.2.2.1, fun q => E.2.2.2.2.2.1 q ∨ q = E.2.2.1 16, E.2.2.2.2.2.2)
theorem eUp_A (E : En) (a : Nat) {o : Nat} (h : o ≠ 16) : eA (eUp E a) o = eA E o := va_up_ne _ _ h
theorem eUp_16 (E : En) (a : Nat) : eA (eUp E a) 16 = a := va_up_self E.2.2.1 16 a
theorem AA_up {E : En} {a sz : Nat} (h16 : 16 ∈ eL E) (ha : AA E sz a) (q : Nat) : AA (eUp E a) sz q ↔ AA E sz q := by
  constructor
  · rintro (⟨o, ho, h⟩ | (h | h) | h)
    · by_cases e : o = 16
      · subst e
        rw [eUp_16] at h
        rw [h]
        exact ha
      · rw [eUp_A E a e] at h
        exact Or.inl ⟨o, ho, h⟩
    · exact Or.inr (Or.inl h)
    · exact Or.inl ⟨16, h16, h⟩
    · exact Or.inr (Or.inr h)
  · rintro (⟨o, ho, h⟩ | h | h)
    · by_cases e : o = 16
      · subst e
        exact Or.inr (Or.inl (Or.inr h))
      · exact Or.inl ⟨o, ho, by rw [eUp_A E a e]; exact h⟩
    · exact Or.inr (Or.inl (Or.inl h))
    · exact Or.inr (Or.inr h)
theorem cFx_up (E : En) (a : Nat) {o : Nat} (ho : o < 27) (h15 : o ≠ 15) (I A : Nat → Int32) (L : Nat → Int64) (Dd : Nat → UInt64) : cFx (eUp E a) o I A L Dd = cFx E o I A L Dd := by
  have hA : ∀ j, j ≠ 16 → eA (eUp E a) j = eA E j := fun j h => eUp_A E a h
  rcases (show o = 0 ∨ o = 1 ∨ o = 2 ∨ o = 3 ∨ o = 4 ∨ o = 5 ∨ o = 6 ∨ o = 7 ∨ o = 8 ∨ o = 9 ∨ o = 10 ∨ o = 11 ∨ o = 12 ∨ o = 13 ∨ o = 14 ∨ o = 16 ∨ o = 17 ∨ o = 18 ∨ o = 19 ∨ o = 20 ∨ 20 < o by omega) with rfl | rfl | rfl | rfl | rfl | rfl | rfl | rfl | rfl | rfl | rfl | rfl | rfl | rfl | rfl | rfl | rfl | rfl | rfl | rfl | h
  case _ => unfold cFx; simp only [hA _ (show (1 : Nat) ≠ 16 by decide), hA _ (show (3 : Nat) ≠ 16 by decide), hA _ (show (11 : Nat) ≠ 16 by decide)]
  case _ => unfold cFx; simp only [hA _ (show (27 : Nat) ≠ 16 by decide), hA _ (show (2 : Nat) ≠ 16 by decide)]
  case _ => rfl
  case _ => unfold cFx; simp only [hA _ (show (34 : Nat) ≠ 16 by decide), hA _ (show (53 : Nat) ≠ 16 by decide), hA _ (show (8 : Nat) ≠ 16 by decide), hA _ (show (4 : Nat) ≠ 16 by decide), hA _ (show (5 : Nat) ≠ 16 by decide), hA _ (show (10 : Nat) ≠ 16 by decide)]
  case _ => rfl
  case _ => unfold cFx; simp only [hA _ (show (6 : Nat) ≠ 16 by decide), hA _ (show (7 : Nat) ≠ 16 by decide)]
  case _ => rfl
  case _ => rfl
  case _ => unfold cFx; simp only [hA _ (show (9 : Nat) ≠ 16 by decide)]
  case _ => rfl
  case _ =>
    unfold cFx
    have : (fun j => some (eA (eUp E a) (41 + 2 * j))) = (fun j => some (eA E (41 + 2 * j))) := funext fun j => by rw [hA _ (by omega)]
    simp only [this]
    rfl
  case _ => unfold cFx; simp only [hA _ (show (12 : Nat) ≠ 16 by decide), hA _ (show (13 : Nat) ≠ 16 by decide), hA _ (show (14 : Nat) ≠ 16 by decide)]
  case _ =>
    unfold cFx
    have : (fun j => some (eA (eUp E a) (53 + 8 * (j + 1)))) = (fun j => some (eA E (53 + 8 * (j + 1)))) := funext fun j => by rw [hA _ (by omega)]
    simp only [this]
    rfl
  case _ =>
    unfold cFx
    have : (fun j => some (eA (eUp E a) (53 + 8 * (j + 11)))) = (fun j => some (eA E (53 + 8 * (j + 11)))) := funext fun j => by rw [hA _ (by omega)]
    simp only [this]
    rfl
  case _ => rfl
  case _ => rfl
  case _ => rfl
  case _ => rfl
  case _ => rfl
  case _ => rfl
  case _ =>
    unfold cFx
    split <;> first | omega | rfl
theorem ce_up {E : En} {w : Wd} (a : Nat) {o : Nat} (h15 : o ≠ 15) : ce (eUp E a) w o = ce E w o := by
  have hA : ∀ j, j ≠ 16 → eA (eUp E a) j = eA E j := fun j h => eUp_A E a h
  unfold ce cX
  by_cases h53 : 53 ≤ o
  · rw [if_pos h53, if_pos h53]
    by_cases h8 : (o - 53) % 8 = 0
    · rw [if_pos h8, if_pos h8]
      unfold cSt
      rw [hA _ (by omega), hA _ (by omega), hA _ (by omega), hA _ (by omega), hA _ (by omega), hA _ (by omega), hA _ (by omega)]
    · rw [if_neg h8, if_neg h8]
      rfl
  · rw [if_neg h53, if_neg h53]
    by_cases h41 : 41 ≤ o
    · rw [if_pos h41, if_pos h41]
      by_cases h2 : (o - 41) % 2 = 0
      · rw [if_pos h2, if_pos h2]
        unfold cLv
        rw [hA _ (by omega)]
      · rw [if_neg h2, if_neg h2]
        rfl
    · rw [if_neg h41, if_neg h41]
      by_cases h27 : 27 ≤ o
      · rw [if_pos h27, if_pos h27]
        by_cases h7 : (o - 27) % 7 = 0
        · rw [if_pos h7, if_pos h7]
          unfold cSe
          rw [hA _ (by omega), hA _ (by omega), hA _ (by omega), hA _ (by omega), hA _ (by omega), hA _ (by omega)]
        · rw [if_neg h7, if_neg h7]
          rfl
      · rw [if_neg h27, if_neg h27]
        exact cFx_up E a (by omega) h15 _ _ _ _
theorem up_self (E : En) (w : Wd) : wsE (eUp E (eA E 16)) w = wsE E w := by
  have e : eA (eUp E (eA E 16)) = eA E := by
    funext o
    by_cases h : o = 16
    · subst h
      exact eUp_16 _ _
    · exact eUp_A _ _ h
  have e2 : ∀ o, ce (eUp E (eA E 16)) w o = ce E w o := by
    intro o
    by_cases h : o = 15
    · subst h
      unfold ce cX
      rw [if_neg (by decide), if_neg (by decide), if_neg (by decide), if_neg (by decide), if_neg (by decide), if_neg (by decide)]
      unfold cFx
      rw [e]
      rfl
    · exact ce_up _ h
  unfold wsE
  show (eL E).map _ = (eL E).map _
  refine List.map_congr_left (fun o _ => ?_)
  rw [e, e2]
theorem inj_self {E : En} (hI : Inj E) : Inj (eUp E (eA E 16)) := by
  have e : ∀ o, eA (eUp E (eA E 16)) o = eA E o := by
    intro o
    by_cases h : o = 16
    · subst h
      exact eUp_16 _ _
    · exact eUp_A _ _ h
  refine ⟨hI.1, fun i j hi hj h => hI.2 i j hi hj ?_⟩
  rw [e, e] at h
  exact h
/-- two moves are one -/
theorem up_up (E : En) (a b : Nat) (w : Wd) : wsE (eUp (eUp E a) b) w = wsE (eUp E b) w := by
  have e : eA (eUp (eUp E a) b) = eA (eUp E b) := by
    funext o
    by_cases h : o = 16
    · subst h
      rw [eUp_16, eUp_16]
    · rw [eUp_A _ _ h, eUp_A _ _ h, eUp_A _ _ h]
  have e2 : ∀ o, ce (eUp (eUp E a) b) w o = ce (eUp E b) w o := by
    intro o
    by_cases h : o = 15
    · subst h
      unfold ce cX
      rw [if_neg (by decide), if_neg (by decide), if_neg (by decide), if_neg (by decide), if_neg (by decide), if_neg (by decide)]
      unfold cFx
      rw [e]
      rfl
    · rw [ce_up _ h, ce_up _ h, ce_up _ h]
  unfold wsE
  show (eL E).map _ = (eL E).map _
  refine List.map_congr_left (fun o _ => ?_)
  rw [e, e2]
theorem inj_up_up {E : En} {a b : Nat} (h : Inj (eUp (eUp E a) b)) : Inj (eUp E b) := by
  have e : ∀ o, eA (eUp (eUp E a) b) o = eA (eUp E b) o := by
    intro o
    by_cases h : o = 16
    · subst h
      rw [eUp_16, eUp_16]
    · rw [eUp_A _ _ h, eUp_A _ _ h, eUp_A _ _ h]
  refine ⟨h.1, fun i j hi hj g => h.2 i j hi hj ?_⟩
  rw [e, e]
  exact g
/-- the row moved: from the list with the new row at its end, the head's field put -/
theorem grow {E : En} {w : Wd} {A : Nat → Prop} {H : Heap} {ra n k0 : Nat} {f : Nat → Int32} (hI : Inj E) (hk0 : (eL E)[k0]? = some 15) (hn : n < 2 ^ 31)
    (hD : va_D A (wsE E w ++ [(ra, (.inl (eC E 1, n, .inl f) : va_E))]))
    (hP : va_P E.1 vwCl ((wsE E w ++ [(ra, (.inl (eC E 1, n, .inl f) : va_E))]).set k0 (eA E 15, .inr (9, [.ref ra, .int (gI w 15 1), .int (gI w 15 2), .int (gI w 15 3)]))) H) :
    Inj (eUp E ra) ∧ va_P E.1 vwCl (wsE (eUp E ra) (sF (sI w 16 0 (nI n)) 16 f)) H := by
  have hlen : (wsE E w).length = (eL E).length := by simp [wsE]
  have hlast : (wsE E w ++ [(ra, (.inl (eC E 1, n, .inl f) : va_E))])[(wsE E w).length]? = some (ra, .inl (eC E 1, n, .inl f)) := by
    rw [List.getElem?_append_right (Nat.le_refl _), Nat.sub_self]
    rfl
  have hold : ∀ {k o : Nat}, (eL E)[k]? = some o → (wsE E w ++ [(ra, (.inl (eC E 1, n, .inl f) : va_E))])[k]? = some (eA E o, ce E w o) := by
    intro k o h
    have : k < (wsE E w).length := by rw [hlen]; exact (List.getElem?_eq_some_iff.mp h).1
    rw [List.getElem?_append_left this]
    exact ws_i h
  have hne : ∀ o, o ∈ eL E → eA E o ≠ ra := by
    intro o ho e
    obtain ⟨k, hk⟩ := List.getElem?_of_mem ho
    have h1 := hD.1 k (wsE E w).length _ _ (hold hk) hlast e
    have h2 := (List.getElem?_eq_some_iff.mp hk).1
    omega
  constructor
  · refine ⟨hI.1, fun i j hi hj h => ?_⟩
    by_cases ei : i = 16
    · by_cases ej : j = 16
      · rw [ei, ej]
      · rw [ei, eUp_16, eUp_A E ra ej] at h
        exact absurd h.symm (hne j hj)
    · by_cases ej : j = 16
      · rw [ej, eUp_16, eUp_A E ra ei] at h
        exact absurd h (hne i hi)
      · rw [eUp_A E ra ei, eUp_A E ra ej] at h
        exact hI.2 i j hi hj h
  · intro k q hk
    obtain ⟨o, ho, rfl⟩ := ws_of hk
    have ho : (eL E)[k]? = some o := ho
    by_cases e15 : o = 15
    · subst e15
      have ek : k = k0 := nd_at hI.1 ho hk0
      subst ek
      have h1 := hP k (eA E 15, .inr (9, [.ref ra, .int (gI w 15 1), .int (gI w 15 2), .int (gI w 15 3)])) (by
        rw [List.getElem?_set_self (by rw [List.length_append, hlen]; have := (List.getElem?_eq_some_iff.mp ho).1; omega)])
      have e2 : ce (eUp E ra) (sF (sI w 16 0 (nI n)) 16 f) 15 = .inr (9, [.ref ra, .int (gI w 15 1), .int (gI w 15 2), .int (gI w 15 3)]) := rfl
      rw [eUp_A E ra (by decide), e2]
      exact h1
    · by_cases e16 : o = 16
      · subst e16
        have h1 := hP (wsE E w).length (ra, .inl (eC E 1, n, .inl f)) (by
          rw [List.getElem?_set_ne (by rw [hlen]; have := (List.getElem?_eq_some_iff.mp hk0).1; omega)]
          exact hlast)
        have e2 : ce (eUp E ra) (sF (sI w 16 0 (nI n)) 16 f) 16 = .inl (eC E 1, n, .inl f) := by
          have : (gI (sI w 16 0 (nI n)) 16 0).toNatClampNeg = n := by
            rw [gI_sI, if_pos ⟨rfl, rfl⟩]
            exact nI_clamp hn
          have e3 : ce (eUp E ra) (sF (sI w 16 0 (nI n)) 16 f) 16 = .inl (eC E 1, (gI (sI w 16 0 (nI n)) 16 0).toNatClampNeg, .inl f) := by
            unfold ce
            rw [A_self]
            rfl
          rw [e3, this]
        rw [eUp_16, e2]
        exact h1
      · have h1 := hP k (eA E o, ce E w o) (by
          rw [List.getElem?_set_ne (fun e => e15 (by rw [← e] at ho; rw [hk0] at ho; exact (Option.some.inj ho).symm))]
          exact hold ho)
        rw [eUp_A E ra e16, ce_up ra e15, ce_sF e16, ce_sI e16]
        exact h1

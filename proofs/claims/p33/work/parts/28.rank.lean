/-! places of sets in the class's table -/
def sbN (j : Nat) : Nat := [0, 1, 2, 3, 4, 5, 6, 7, 8, 9, 10, 11, 12, 0, 1, 2, 4, 7, 11, 16, 22, 29, 37, 46, 56, 67, 0, 1, 2, 4, 8, 15, 26, 42, 64, 93, 130, 176, 232].getD j 0
theorem sbN_ok : ∀ j, j < 39 → sbTab j = nI (sbN j) := by decide +kernel
def rk (m : Nat) : Nat → Nat → Nat → Nat
  | 0, _, rank => rank
  | h + 1, left, rank => if left = 0 then rank else if m.testBit (h + 1) then rk m h (left - 1) (rank + sbN ((left - 1) * 13 + (h + 1))) else rk m h left rank
def rankN (m : Nat) : Nat := rk m 12 3 0
/-- how many sets of at most l heights there are among h -/
def nnS : Nat → Nat → Nat
  | 0, _ => 1
  | _ + 1, 0 => 1
  | l + 1, h + 1 => nnS (l + 1) h + nnS l h
theorem sbN_nn : ∀ l, l < 3 → ∀ h, h < 12 → sbN (l * 13 + (h + 1)) = nnS (l + 1) h := by decide +kernel
theorem nnS_pos (l h : Nat) : 0 < nnS l h := by
  cases l with
  | zero => cases h <;> exact Nat.zero_lt_one
  | succ l =>
    induction h with
    | zero => exact Nat.zero_lt_one
    | succ h ih =>
      show 0 < nnS (l + 1) h + nnS l h
      omega
theorem wh_rankOf {w : Wd} {m : Nat} {Post : Int32 → Wd → Prop} (hm : m < 2 ^ 31) (h : Post (nI (rankN m)) w) : wp_X4_rankOf w (nI m) Post := by
  unfold wp_X4_rankOf
  intro J hJ
  have low : ∀ rank, rank < 299 → ¬ (299 : Int32) ≤ nI rank := fun rank hr q => by
    simp (disch := omega) only [fa_lit, nI_leI] at q
    omega
  have key : ∀ h left rank, h ≤ 12 → left ≤ 3 → rank + nnS left h ≤ 299 → Post (nI (rk m h left rank)) w → J (nI rank) (nI left) (nI h) w := by
    intro h
    induction h with
    | zero =>
      intro left rank _ _ hr h
      have hp := nnS_pos left 0
      exact hJ _ _ _ _ ⟨fun _ => ⟨fun q => absurd q (low _ (by omega)), fun _ => h⟩, fun q => absurd (by decide) q⟩
    | succ h ih =>
      intro left rank hh hl hr hp
      have hps := nnS_pos left (h + 1)
      unfold rk at hp
      refine hJ _ _ _ _ ⟨fun q => absurd q (nI_nle (by omega) (by omega)), fun _ => ⟨fun q => ?_, fun q => ?_⟩⟩
      · by_cases h0 : left = 0
        · rw [if_pos h0] at hp
          exact ⟨fun q => absurd q (low _ (by omega)), fun _ => hp⟩
        · exact absurd q (nI_nle (by omega) (by omega))
      · by_cases h0 : left = 0
        · subst h0
          exact absurd (by decide) q
        · rw [if_neg h0] at hp
          rw [nI_hb hm (by omega)]
          obtain ⟨l, rfl⟩ : ∃ l, left = l + 1 := ⟨left - 1, by omega⟩
          have hn : nnS (l + 1) (h + 1) = nnS (l + 1) h + nnS l h := rfl
          have hpl := nnS_pos l h
          have hsb := sbN_nn l (by omega) h (by omega)
          rw [pk_m1 l, pk_m1 h]
          cases hb : m.testBit (h + 1)
          · rw [hb, if_neg (by decide)] at hp
            refine ⟨fun _ y e => ?_, fun q => absurd rfl q⟩
            subst e
            exact ih _ _ (by omega) hl (by omega) hp
          · rw [hb, if_pos rfl] at hp
            refine ⟨fun q => absurd q (by decide), fun _ y2 e2 => ?_⟩
            subst e2
            have ei : nI l * 13 + nI (h + 1) = nI (l * 13 + (h + 1)) := by rw [fa_lit, pk_mul, nI_add]
            rw [ei, nI_clamp (by omega), sbN_ok _ (by omega), nI_add]
            refine ⟨pk_in (l * 13 + (h + 1)) 39 (by omega), fun y3 e3 y4 e4 => ?_⟩
            subst e3 e4
            have e1 : l + 1 - 1 = l := rfl
            rw [e1] at hp
            exact ih _ _ (by omega) (by omega) (by omega) hp
  exact key 12 3 0 (by omega) (by omega) (by decide +kernel) h
def posN (r : Nat) : Nat := posT.getD r 0
/-- a set of at most three heights from 1 to 12 -/
def isPos (m : Nat) : Bool := decide (m < 8192) && (!m.testBit 0 && decide (pop m ≤ 3))
set_option maxRecDepth 100000 in
theorem rank_all : allB 8192 (fun m => !isPos m || (decide (rankN m < 299) && decide (posN (rankN m) = m))) = true := by decide +kernel
set_option maxRecDepth 100000 in
theorem pos_all : allB 299 (fun r => isPos (posN r) && decide (rankN (posN r) = r)) = true := by decide +kernel
set_option maxRecDepth 100000 in
theorem posN_up : allB 298 (fun r => decide (posN r < posN (r + 1))) = true := by decide +kernel
theorem rank_ok {m : Nat} (h : isPos m = true) : rankN m < 299 ∧ posN (rankN m) = m := by
  have hm : m < 8192 := by
    unfold isPos at h
    rw [Bool.and_eq_true, decide_eq_true_eq] at h
    exact h.1
  have h1 := allB_at rank_all hm
  rw [h] at h1
  simpa using h1
theorem pos_ok {r : Nat} (h : r < 299) : isPos (posN r) = true ∧ rankN (posN r) = r := by
  have h1 := allB_at pos_all h
  simpa using h1
theorem pos_lt {a b : Nat} (hb : b < 299) (h : a < b) : posN a < posN b := by
  obtain ⟨d, rfl⟩ : ∃ d, b = a + 1 + d := ⟨b - a - 1, by omega⟩
  induction d with
  | zero => exact of_decide_eq_true (allB_at posN_up (i := a) (by omega))
  | succ d ih =>
    have h1 := ih (by omega) (by omega)
    have h2 : posN (a + 1 + d) < posN (a + 1 + d + 1) := of_decide_eq_true (allB_at posN_up (i := a + 1 + d) (by omega))
    exact Nat.lt_trans h1 h2
theorem rank_lt {m n : Nat} (hm : isPos m = true) (hn : isPos n = true) (h : m < n) : rankN m < rankN n := by
  obtain ⟨h1, h2⟩ := rank_ok hm
  obtain ⟨h3, h4⟩ := rank_ok hn
  rcases Nat.lt_trichotomy (rankN m) (rankN n) with q | q | q
  · exact q
  · rw [q, h4] at h2; omega
  · have := pos_lt h1 q
    omega
theorem isPos_of {m : Nat} (h1 : m < 8192) (h2 : m.testBit 0 = false) (h3 : pop m ≤ 3) : isPos m = true := by
  unfold isPos
  rw [h2]
  simp [h1, h3]
theorem isPos_sp {m : Nat} (h : isPos m = true) : m < 8192 ∧ m.testBit 0 = false ∧ pop m ≤ 3 := by
  unfold isPos at h
  simpa using h

/-! the class: the values behind, as bits -/
theorem any_mem {a b : List Nat} {f : Nat → Bool} (h : ∀ x, x ∈ a ↔ x ∈ b) : a.any f = b.any f := by
  apply Bool.eq_iff_iff.mpr
  rw [List.any_eq_true, List.any_eq_true]
  exact ⟨fun ⟨x, hx, he⟩ => ⟨x, (h x).mp hx, he⟩, fun ⟨x, hx, he⟩ => ⟨x, (h x).mpr hx, he⟩⟩
theorem take_any (xs : List Nat) (f : Nat → Bool) {i : Nat} (hi : i < xs.length) : (xs.take (i + 1)).any f = ((xs.take i).any f || f (xs.getD i 0)) := by
  rw [List.take_succ_eq_append_getElem hi, List.any_append, List.getD_eq_getElem?_getD, List.getElem?_eq_getElem hi]
  simp
theorem nxs_pos {l z m x : Nat} (hm : isPos m = true) (hx : x ∈ nxs l z m) : isPos x = true ∧ pop x ≤ pop m ∧ rankN x < rankN m := by
  obtain ⟨m1, m2, m3⟩ := isPos_sp hm
  obtain ⟨h1, h2⟩ := nxs_lt m2 hx
  obtain ⟨h, s, b1, b2, b3, hk, e⟩ := mem_nxs.mp hx
  have h3 : pop x ≤ pop m := by rw [e]; exact pop_nx hk (by omega) b1 m2
  have h4 : isPos x = true := isPos_of (by omega) h2 (by omega)
  exact ⟨h4, h3, rank_lt h4 hm h1⟩
theorem wh_valuesBehind {k : Nat} {w : Wd} {m l z : Nat} {Post : Int32 → Wd → Prop} (hm : isPos m = true) (hl : l < 8192) (hl0 : l.testBit 0 = false) (hz8 : z < 8192) (hz : pop z ≤ 4) (e2 : gI w (41 + 2 * k) 2 = nI z) (e3 : gI w (41 + 2 * k) 3 = nI l) (hv : ∀ x ∈ nxs l z m, gA w (41 + 2 * k + 1) (rankN x) = nI (val l z x)) (h : ∀ (B : Nat → Int32) (q : Nat), q < 8192 → (∀ v, q.testBit v = (nxs l z m).any (fun x => val l z x == v)) → Post (nI q) (sF w 7 B)) : wp_X3_valuesBehind k w (nI m) Post := by
  unfold wp_X3_valuesBehind
  intro J hJ
  rw [e2, e3]
  refine wh_listBehind hm hl hz8 hz (fun B hB => ?_)
  have hlen : (pB l z m 12 0).length ≤ 12 := by
    rw [pB_s]
    exact pB_12 hm hz (by omega) (by omega)
  have key : ∀ n i, i + n = (pB l z m 12 0).length → ∀ q, q < 8192 → (∀ v, q.testBit v = ((pB l z m 12 0).take i).any (fun x => val l z x == v)) → J (nI q) (nI (pB l z m 12 0).length) (nI i) (sF w 7 B) := by
    intro n
    induction n with
    | zero =>
      intro i hi q hq hqb
      refine hJ _ _ _ _ ⟨fun _ => ?_, fun c => ?_⟩
      · refine h B q hq (fun v => ?_)
        rw [hqb v, List.take_of_length_le (by omega)]
        exact any_mem (fun x => mem_pB hm hl0)
      · simp (disch := omega) only [nI_leI] at c
        omega
    | succ n ih =>
      intro i hi q hq hqb
      have hil : i < (pB l z m 12 0).length := by omega
      have hx : (pB l z m 12 0).getD i 0 ∈ nxs l z m := by
        rw [← mem_pB hm hl0, List.getD_eq_getElem?_getD, List.getElem?_eq_getElem hil]
        exact List.getElem_mem hil
      obtain ⟨p1, p2, p3⟩ := nxs_pos hm hx
      obtain ⟨m1, m2, m3⟩ := isPos_sp hm
      obtain ⟨x1, x2, x3⟩ := isPos_sp p1
      have hr := (rank_ok p1).1
      have hvl := val_le (l := l) (z := z) x2 x3 hz
      refine hJ _ _ _ _ ⟨fun c => ?_, fun _ => ?_⟩
      · simp (disch := omega) only [nI_leI] at c
        omega
      · have eB : gA (sF w 7 B) 7 (nI i).toNatClampNeg = nI (rankN ((pB l z m 12 0).getD i 0)) := by
          rw [nI_clamp (by omega), gA_sF, if_pos rfl]
          exact hB i hil
        rw [eB]
        refine ⟨pk_in i 12 (by omega), pk_in (rankN ((pB l z m 12 0).getD i 0)) 299 hr, fun y1 e1 y2 e2 => ?_⟩
        subst e2
        rw [nI_clamp (by omega), gA_sF, if_neg (by omega), hv _ hx, nI_shl1 (by omega), fa_or] at e1
        subst e1
        rw [nI_1]
        refine ih (i + 1) (by omega) _ (lt13 (fun j hj => ?_)) (fun v => ?_)
        · rw [Nat.testBit_or, tb_big hq hj, Nat.testBit_two_pow, decide_eq_false (by omega)]
          rfl
        · rw [Nat.testBit_or, hqb v, take_any _ _ hil, Nat.testBit_two_pow]
          congr 1
  exact key (pB l z m 12 0).length 0 (by omega) 0 (by omega) (fun v => by simp)
/-- what the class keeps of a ladder's values -/
def VC (w : Wd) (k cc z l f : Nat) : Prop := gI w (41 + 2 * k) 1 = nI cc ∧ gI w (41 + 2 * k) 2 = nI z ∧ gI w (41 + 2 * k) 3 = nI l ∧ gI w (41 + 2 * k) 4 = nI f ∧ f ≤ 299 ∧ ∀ r, r < f → gA w (41 + 2 * k + 1) r = nI (if cc < pop (posN r) then 0 else val l z (posN r))

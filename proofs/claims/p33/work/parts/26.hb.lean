/-! bits of small sets, as the two programs ask for them -/
/-- m without the bits of q -/
def clr (m q : Nat) : Nat := m ^^^ (m &&& q)
theorem tb_clr (m q i : Nat) : (clr m q).testBit i = (m.testBit i && !q.testBit i) := by
  unfold clr
  rw [Nat.testBit_xor, Nat.testBit_and]
  cases m.testBit i <;> cases q.testBit i <;> rfl
theorem bt_nI (m : Nat) {i : Nat} (hi : i < 32) : bt (nI m) i = m.testBit i := by
  show (BitVec.ofNat 32 m).getLsbD i = m.testBit i
  rw [BitVec.getLsbD_ofNat]
  simp [hi]
theorem nI_clr (m q : Nat) : nI m &&& (nI q ^^^ (-1)) = nI (clr m q) := by
  apply b_ext
  intro i hi
  rw [b_and, b_xor, b_m1 i hi, bt_nI m hi, bt_nI q hi, bt_nI _ hi, tb_clr]
  cases m.testBit i <;> cases q.testBit i <;> rfl
theorem nI_clr1 (m : Nat) : nI m &&& (-2) = nI (clr m 1) := nI_clr m 1
theorem nI_shl1 {k : Nat} (hk : k < 31) : (1 : Int32) <<< (nI k &&& 31) = nI (2 ^ k) := by
  have h := pk_shlN (n := 1) (nI k &&& 31) k (s_l k (by omega)) (by rw [Nat.one_mul]; exact Nat.pow_lt_pow_right (by decide) (by omega))
  rw [Nat.one_mul] at h
  exact h
theorem nI_shr {m k : Nat} (hm : m < 2 ^ 31) (hk : k < 31) : nI m >>> (nI k &&& 31) = nI (m / 2 ^ k) := pk_shrN hm (nI k &&& 31) k (s_l k (by omega))
theorem nI_hb {m k : Nat} (hm : m < 2 ^ 31) (hk : k < 31) : (nI m >>> (nI k &&& 31)) &&& 1 = if m.testBit k then 1 else 0 := by
  rw [nI_shr hm hk]
  have h := fa_mask (m / 2 ^ k) 1
  have h1 : nI (m / 2 ^ k) &&& (1 : Int32) = nI (m / 2 ^ k % 2) := h
  rw [h1]
  have h2 : m.testBit k = decide (m / 2 ^ k % 2 = 1) := by rw [Nat.testBit_eq_decide_div_mod_eq]
  rw [h2]
  by_cases hb : m / 2 ^ k % 2 = 1
  · rw [if_pos (by simpa using hb), hb]; rfl
  · rw [if_neg (by simpa using hb), show m / 2 ^ k % 2 = 0 by omega]; rfl
def bI (b : Bool) : Int32 := if b then 1 else 0
theorem wh_hasBit {w : Wd} {m k : Nat} {Post : Int32 → Wd → Prop} (hm : m < 2 ^ 31) (hk : k < 31) (h : Post (bI (m.testBit k)) w) : wp_X8_hasBit w (nI m) (nI k) Post := by
  unfold wp_X8_hasBit
  rw [nI_hb hm hk]
  unfold bI at h
  generalize m.testBit k = b at h ⊢
  cases b
  · exact ⟨fun _ => h, fun q => absurd rfl q⟩
  · exact ⟨fun q => absurd q (by decide), fun _ => h⟩
theorem bI_0 (b : Bool) : bI b = 0 ↔ b = false := by cases b <;> decide
/-- a coin moved, the ground left out -/
def mv (c f t : Nat) : Nat := clr (clr c (2 ^ f) ||| 2 ^ t) 1
theorem wh_moved {w : Wd} {c f t : Nat} {Post : Int32 → Wd → Prop} (hf : f < 31) (ht : t < 31) (h : Post (nI (mv c f t)) w) : wp_X8_moved w (nI c) (nI f) (nI t) Post := by
  unfold wp_X8_moved
  rw [nI_shl1 hf, nI_shl1 ht, nI_clr, fa_or, nI_clr1]
  exact h
/-- where a step of size s can lead from a set, as a set -/
def tgs (m l s : Nat) : Nat := clr (m / 2 ^ s) (m ||| l)
theorem tb_tgs (m l s i : Nat) : (tgs m l s).testBit i = (m.testBit (s + i) && !(m.testBit i || l.testBit i)) := by
  unfold tgs
  rw [tb_clr, Nat.testBit_or, Nat.testBit_div_two_pow, Nat.add_comm]
theorem wh_targets {w : Wd} {m l s : Nat} {Post : Int32 → Wd → Prop} (hm : m < 2 ^ 31) (hs : s < 31) (h : Post (nI (tgs m l s)) w) : wp_X4_targetsOf w (nI m) (nI l) (nI s) Post := by
  unfold wp_X4_targetsOf
  rw [nI_shr hm hs, fa_or, nI_clr]
  exact h
/-- how many coins lie in a set -/
def pop (m : Nat) : Nat := fb_ct (fun i => m.testBit i) 13
def allB : Nat → (Nat → Bool) → Bool
  | 0, _ => true
  | n + 1, f => f n && allB n f
theorem allB_at {f : Nat → Bool} : ∀ {n i : Nat}, allB n f = true → i < n → f i = true
  | n + 1, i, h, hi => by
    unfold allB at h
    rw [Bool.and_eq_true] at h
    by_cases e : i = n
    · rw [e]; exact h.1
    · exact allB_at h.2 (by omega)

/-! the grammar goes on, statement by statement -/
def Rd (tx : List Nat) (m : Nat) (P : Dr → Prop) : Prop := ∀ (buf : Nat → Int32) (lim : Nat), At buf 0 tx → tx.length ≤ lim → ∃ D, P D ∧ ∀ k, gamF buf lim (k + m) (tokN buf lim 0) D0 = gamF buf lim k (tokN buf lim tx.length) D
theorem Rd_0 {P : Dr → Prop} (h : P D0) : Rd [] 0 P := fun _ _ _ _ => ⟨D0, h, fun _ => rfl⟩
theorem Rd_step {tx st : List Nat} {m : Nat} {P P' : Dr → Prop} (h : Rd tx m P) (hs : ∀ (buf : Nat → Int32) (lim a : Nat) (D : Dr), At buf a st → a + st.length ≤ lim → P D → (tokN buf lim a).kd ≠ 0 ∧ ∃ D', P' D' ∧ staE buf lim (tokN buf lim a) D = .ok (tokN buf lim (a + st.length), D')) : Rd (tx ++ st) (m + 1) P' := by
  intro buf lim hat hl
  rw [List.length_append] at hl
  obtain ⟨h1, h2⟩ := At_app.mp hat
  obtain ⟨D, hD, e⟩ := h buf lim h1 (by omega)
  rw [Nat.zero_add] at h2
  obtain ⟨k0, D', hD', e2⟩ := hs buf lim tx.length D h2 hl hD
  refine ⟨D', hD', fun k => ?_⟩
  rw [show k + (m + 1) = (k + 1) + m by omega, e (k + 1), gam_go k0 e2, List.length_append]
theorem Rd_end {buf : Nat → Int32} {tx : List Nat} {m : Nat} {P : Dr → Prop} (h : Rd tx m P) (hm : m ≤ 400) (hat : At buf 0 tx) : ∃ D, P D ∧ gamE buf tx.length = .ok D := by
  obtain ⟨D, hD, e⟩ := h buf tx.length hat (Nat.le_refl _)
  refine ⟨D, hD, ?_⟩
  have e2 := e (401 - m + 1)
  rw [show 401 - m + 1 + m = 402 by omega] at e2
  unfold gamE
  rw [e2, gamF, tk_end, if_pos (show Tk.kd (tx.length, tx.length, 0, 0) = 0 from rfl)]
def dfL (k : Nat) (D : Dr) : Prop := D.g.n = k ∧ (∀ l, l < k → 3 ≤ D.g.top l ∧ D.g.top l ≤ 9 ∧ D.g.lk l = 0) ∧ D.ht = false ∧ D.hf = false
def dfK (n h : Nat) (D : Dr) : Prop := D.g.n = n ∧ (∀ l, l < n → 3 ≤ D.g.top l ∧ D.g.top l ≤ 9) ∧ (∀ j, h ≤ j → (D.g.lk 0).testBit j = false) ∧ D.ht = false ∧ D.hf = false
def dfT (n : Nat) (D : Dr) : Prop := D.g.n = n ∧ (∀ l, l < n → D.g.top l ≤ 9) ∧ D.hf = false
def dfE (n : Nat) (D : Dr) : Prop := D.g.n = n ∧ ∀ l, l < n → D.g.top l ≤ 9
theorem Rd.mono {tx : List Nat} {m : Nat} {P P' : Dr → Prop} (h : Rd tx m P) (hp : ∀ D, P D → P' D) : Rd tx m P' := fun buf lim a b => by
  obtain ⟨D, hD, e⟩ := h buf lim a b
  exact ⟨D, hp D hD, e⟩
theorem dfL_0 : dfL 0 D0 := ⟨rfl, fun l hl => absurd hl (Nat.not_lt_zero l), rfl, rfl⟩
theorem dfL_K {n : Nat} {D : Dr} (hn : 0 < n) (h : dfL n D) (j : Nat) : dfK n j D := ⟨h.1, fun l hl => ⟨(h.2.1 l hl).1, (h.2.1 l hl).2.1⟩, fun i _ => by rw [(h.2.1 0 hn).2.2]; exact Nat.zero_testBit i, h.2.2⟩
theorem Rd_lad {tx : List Nat} {k top : Nat} {cs ss : List Nat} (h : Rd tx k (dfL k)) (hn : k < 6) (ht1 : 3 ≤ top) (ht2 : top < 10) (hc0 : cs ≠ []) (hc3 : cs.length ≤ 3) (hc : ∀ c, c ∈ cs → 1 ≤ c ∧ c ≤ top) (hcn : cs.Nodup) (hs4 : ss.length ≤ 4) (hs : ∀ c, c ∈ ss → 1 ≤ c ∧ c < 10) (hsn : ss.Nodup) : Rd (tx ++ ladT top cs ss) (k + 1) (dfL (k + 1)) := by
  refine Rd_step h (fun buf lim a D hat hl hD => ?_)
  obtain ⟨d1, d2, d3, d4⟩ := hD
  obtain ⟨k0, co, sz, e⟩ := sta_lad (D := D) hat hl (by omega) (by omega) ht2 hc0 hc3 hc hcn hs4 hs hsn
  refine ⟨k0, (D.g.add top co sz, D.2), ⟨?_, fun l hl2 => ?_, d3, d4⟩, e⟩
  · show D.g.n + 1 = k + 1
    rw [d1]
  · show 3 ≤ (if l = D.g.n then top else D.g.top l) ∧ (if l = D.g.n then top else D.g.top l) ≤ 9 ∧ (if l = D.g.n then 0 else D.g.lk l) = 0
    by_cases q : l = D.g.n
    · simp only [if_pos q]
      exact ⟨ht1, by omega, trivial⟩
    · simp only [if_neg q]
      exact d2 l (by omega)
theorem Rd_lok {tx : List Nat} {m n h : Nat} (hr : Rd tx m (dfK n h)) (hn : 0 < n) (h1 : 1 ≤ h) (h2 : h ≤ 3) : Rd (tx ++ lokT h) (m + 1) (dfK n (h + 1)) := by
  refine Rd_step hr (fun buf lim a D hat hl hD => ?_)
  obtain ⟨d1, d2, d3, d4, d5⟩ := hD
  have d20 := d2 0 hn
  obtain ⟨k0, e⟩ := sta_lok (D := D) hat hl (by omega) h1 (by omega) (by omega) (d3 h (Nat.le_refl _))
  refine ⟨k0, (D.g.slk 0 (D.g.lk 0 ||| 2 ^ h), D.2), ⟨d1, d2, fun j hj => ?_, d4, d5⟩, e⟩
  show (D.g.lk 0 ||| 2 ^ h).testBit j = false
  rw [fb_bit_set, d3 j (by omega), decide_eq_false (by omega)]
  rfl
theorem Rd_tok {tx : List Nat} {m n h x y z : Nat} (hr : Rd tx m (dfK n h)) (hx : x < 10) (hy : y < 10) (hz : z < 10) : Rd (tx ++ tokT x y z) (m + 1) (dfT n) := by
  refine Rd_step hr (fun buf lim a D hat hl hD => ?_)
  obtain ⟨d1, d2, d3, d4, d5⟩ := hD
  obtain ⟨k0, f, e⟩ := sta_tok (D := D) hat hl hx hy hz d4
  exact ⟨k0, (D.g, f, D.fi, true, D.hf), ⟨d1, fun l hl2 => (d2 l hl2).2, d5⟩, e⟩
theorem Rd_fir {tx : List Nat} {m n x : Nat} (hr : Rd tx m (dfT n)) (hx : x ≤ 1) : Rd (tx ++ firT x) (m + 1) (dfE n) := by
  refine Rd_step hr (fun buf lim a D hat hl hD => ?_)
  obtain ⟨d1, d2, d3⟩ := hD
  obtain ⟨k0, e⟩ := sta_fir (D := D) hat hl hx d3
  exact ⟨k0, (D.g, D.tk, x, D.ht, true), ⟨d1, d2⟩, e⟩
/-! the text by chunks of twenty letters -/
def pvN (f : Nat → Nat) (i : Nat) : Nat → Nat
  | 0 => 0
  | m + 1 => pvN f i m * 256 + f (4 * i + m)
theorem pvN_lt {f : Nat → Nat} {i : Nat} (hf : ∀ j, f j < 128) : ∀ m, 2 * pvN f i m < 256 ^ m
  | 0 => (by decide : 2 * 0 < 256 ^ 0)
  | m + 1 => by
    have ih := pvN_lt (i := i) hf m
    have := hf (4 * i + m)
    show 2 * (pvN f i m * 256 + f (4 * i + m)) < 256 ^ (m + 1)
    rw [Nat.pow_succ]
    omega
theorem pv_push {f : Nat → Nat} {i m : Nat} (hf : ∀ j, f j < 128) (hm : m ≤ 3) : nI (pvN f i m) <<< (8 &&& 31) ||| nI (f (4 * i + m)) = nI (pvN f i (m + 1)) := by
  have h1 := pvN_lt (i := i) hf m
  have h2 : (256 : Nat) ^ m ≤ 256 ^ 3 := Nat.pow_le_pow_right (by decide) hm
  have h3 := hf (4 * i + m)
  have e1 : nI (pvN f i m) <<< (8 &&& 31) = nI (pvN f i m * 2 ^ 8) := pk_shlN (n := pvN f i m) (8 &&& 31) 8 (by decide) (by omega)
  have f1 := fa_or_sum (a := f (4 * i + m)) (k := 8) (pvN f i m) (by omega)
  rw [Nat.mul_comm] at f1
  rw [e1, f1]
  rfl
theorem cut8 {q c : Nat} (hq : q < 2 ^ 31) (h : q % 256 = c) (hc : c < 128) : (nI q).toInt8.toInt32 = nI c := by
  apply Int32.toInt_inj.1
  rw [Int8.toInt_toInt32, Int32.toInt_toInt8, nI_toInt (by omega), nI_toInt (by omega)]
  unfold Int.bmod
  simp only []
  split <;> omega
theorem by_of {p c : Nat} (s : Int32) (k : Nat) (hs : ((s &&& 31).toBitVec.smod 32).toNat = k) (hp : p < 2 ^ 31) (h : p / 2 ^ k % 256 = c) (hc : c < 128) : byP (nI p) s = nI c := by
  have hk : p / 2 ^ k < 2 ^ 31 := Nat.lt_of_le_of_lt (Nat.div_le_self _ _) hp
  unfold byP
  rw [pk_vb, pk_shrN hp (s &&& 31) k hs]
  exact cut8 hk h hc
theorem by_pv {f : Nat → Nat} {i : Nat} (hf : ∀ j, f j < 128) : byP (nI (pvN f i 4)) 24 = nI (f (4 * i)) ∧ byP (nI (pvN f i 4)) 16 = nI (f (4 * i + 1)) ∧ byP (nI (pvN f i 4)) 8 = nI (f (4 * i + 2)) ∧ byP (nI (pvN f i 4)) 0 = nI (f (4 * i + 3)) := by
  have h1 := pvN_lt (i := i) hf 4
  have hp : pvN f i 4 < 2 ^ 31 := by omega
  have e : pvN f i 4 = (((0 * 256 + f (4 * i + 0)) * 256 + f (4 * i + 1)) * 256 + f (4 * i + 2)) * 256 + f (4 * i + 3) := rfl
  rw [Nat.add_zero] at e
  have a0 := hf (4 * i)
  have a1 := hf (4 * i + 1)
  have a2 := hf (4 * i + 2)
  have a3 := hf (4 * i + 3)
  exact ⟨by_of 24 24 (by decide) hp (by omega) a0, by_of 16 16 (by decide) hp (by omega) a1, by_of 8 8 (by decide) hp (by omega) a2, by_of 0 0 (by decide) hp (by omega) a3⟩
theorem ap4_at {f : Nat → Nat} {i j : Nat} {B : Nat × (Nat → Int32)} (hf : ∀ j, f j < 128) : (ap4 B (nI (pvN f i 4))).2 j = if B.1 ≤ j ∧ j < B.1 + 4 then nI (f (4 * i + (j - B.1))) else B.2 j := by
  obtain ⟨b0, b1, b2, b3⟩ := by_pv (i := i) hf
  show upd (upd (upd (upd B.2 B.1 (byP (nI (pvN f i 4)) 24)) (B.1 + 1) (byP (nI (pvN f i 4)) 16)) (B.1 + 2) (byP (nI (pvN f i 4)) 8)) (B.1 + 3) (byP (nI (pvN f i 4)) 0) j = _
  rw [b0, b1, b2, b3]
  by_cases q3 : j = B.1 + 3
  · rw [q3, pk_us, if_pos (by omega), show B.1 + 3 - B.1 = 3 by omega]
  rw [pk_un q3]
  by_cases q2 : j = B.1 + 2
  · rw [q2, pk_us, if_pos (by omega), show B.1 + 2 - B.1 = 2 by omega]
  rw [pk_un q2]
  by_cases q1 : j = B.1 + 1
  · rw [q1, pk_us, if_pos (by omega), show B.1 + 1 - B.1 = 1 by omega]
  rw [pk_un q1]
  by_cases q0 : j = B.1
  · rw [q0, pk_us, if_pos (by omega), Nat.sub_self, Nat.add_zero]
  rw [pk_un q0, if_neg (by omega)]
theorem ap20_at {f : Nat → Nat} {j n : Nat} {b : Nat → Int32} (hf : ∀ j, f j < 128) : (ap20 (n, b) (nI (pvN f 0 4)) (nI (pvN f 1 4)) (nI (pvN f 2 4)) (nI (pvN f 3 4)) (nI (pvN f 4 4))).2 j = if n ≤ j ∧ j < n + 20 then nI (f (j - n)) else b j := by
  unfold ap20
  rw [ap4_at hf, ap4_at hf, ap4_at hf, ap4_at hf, ap4_at hf]
  show (if n + 4 + 4 + 4 + 4 ≤ j ∧ j < n + 4 + 4 + 4 + 4 + 4 then nI (f (4 * 4 + (j - (n + 4 + 4 + 4 + 4)))) else if n + 4 + 4 + 4 ≤ j ∧ j < n + 4 + 4 + 4 + 4 then nI (f (4 * 3 + (j - (n + 4 + 4 + 4)))) else if n + 4 + 4 ≤ j ∧ j < n + 4 + 4 + 4 then nI (f (4 * 2 + (j - (n + 4 + 4)))) else if n + 4 ≤ j ∧ j < n + 4 + 4 then nI (f (4 * 1 + (j - (n + 4)))) else if n ≤ j ∧ j < n + 4 then nI (f (4 * 0 + (j - n))) else b j) = _
  by_cases q : n ≤ j ∧ j < n + 20
  · rw [if_pos q]
    by_cases q4 : n + 4 + 4 + 4 + 4 ≤ j
    · rw [if_pos (by omega), show 4 * 4 + (j - (n + 4 + 4 + 4 + 4)) = j - n by omega]
    rw [if_neg (by omega)]
    by_cases q3 : n + 4 + 4 + 4 ≤ j
    · rw [if_pos (by omega), show 4 * 3 + (j - (n + 4 + 4 + 4)) = j - n by omega]
    rw [if_neg (by omega)]
    by_cases q2 : n + 4 + 4 ≤ j
    · rw [if_pos (by omega), show 4 * 2 + (j - (n + 4 + 4)) = j - n by omega]
    rw [if_neg (by omega)]
    by_cases q1 : n + 4 ≤ j
    · rw [if_pos (by omega), show 4 * 1 + (j - (n + 4)) = j - n by omega]
    rw [if_neg (by omega), if_pos (by omega), show 4 * 0 + (j - n) = j - n by omega]
  · rw [if_neg q, if_neg (by omega), if_neg (by omega), if_neg (by omega), if_neg (by omega), if_neg (by omega)]
def fT (tx : List Nat) (p : Nat) : Nat → Nat := fun v => if p + v < tx.length then tx.getD (p + v) 0 else 32
theorem fT_lt {tx : List Nat} (h : ∀ c, c ∈ tx → c < 128) (p v : Nat) : fT tx p v < 128 := by
  unfold fT
  by_cases q : p + v < tx.length
  · rw [if_pos q, List.getD_eq_getElem?_getD, List.getElem?_eq_getElem q]
    exact h _ (List.getElem_mem q)
  · rw [if_neg q]
    decide

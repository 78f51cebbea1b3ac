/-! what every call leaves keeps the rules -/
def okA (b : Nat) (a : An) : Prop := a.2.2.ok b ∧ bufOK a.2.2
theorem okI {c : Prop} [Decidable c] {A B : An} {b : Nat} (h1 : c → okA b A) (h2 : ¬ c → okA b B) : okA b (if c then A else B) := by
  by_cases h : c
  · rw [if_pos h]
    exact h1 h
  · rw [if_neg h]
    exact h2 h
theorem okA_step {b : Nat} {S : Sy} {x y z : Int32} (hS : S.ok b) (hB : bufOK S) : okA (b + 60) (stpA S x y z) := by
  have hS' : S.ok (b + 60) := hS.up (by omega)
  unfold stpA
  refine okI (fun c => ?_) (fun _ => ⟨hS', hB⟩)
  have hg := hS.hg
  obtain ⟨l, hh, s, rfl, rfl, rfl, hin⟩ := why0 hg c
  obtain ⟨i1, i2, i3, i4, i5, i6⟩ := id hin
  have i1 : l < S.g.n := i1
  have i3 : hh ≤ S.g.top l := i3
  have i5 : s ≤ 12 := i5
  have hl6 : l < 6 := Nat.lt_of_lt_of_le i1 hg.1
  have hb12 := (hg.2 l i1).2.1
  have eS : stS S (nI l) (nI hh) (nI s) = (keepS S).sp (stepP S.g S.r l hh s) := by
    unfold stS
    rw [nI_clamp (by omega), nI_clamp (by omega), nI_clamp (by omega)]
  rw [eS]
  have hp := stepP_ok (b := b) (g := S.g) (r := S.r) (l := l) (h := hh) (s := s) hS.1 hin
  exact ⟨hS'.keep.sp (hp.up (by omega)) ⟨rfl, rfl, rfl, rfl⟩, fun i hi => hB i hi⟩
theorem okA_claim {b : Nat} {S : Sy} {x : Int32} (hS : S.ok b) (hB : bufOK S) : okA (b + 60) (clmA S x) := by
  have hS' : S.ok (b + 60) := hS.up (by omega)
  unfold clmA
  refine okI (fun c => ?_) (fun _ => ⟨hS', hB⟩)
  have hp := claimP_ok (b := b) (g := S.g) (r := S.r) (l := x.toNatClampNeg) hS.1
  exact ⟨hS'.keep.sp (hp.up (by omega)) ⟨rfl, rfl, rfl, rfl⟩, fun i hi => hB i hi⟩
theorem okA_lock {b : Nat} {S : Sy} {x y : Int32} (hS : S.ok b) (hB : bufOK S) : okA (b + 60) (lokA S x y) := by
  have hS' : S.ok (b + 60) := hS.up (by omega)
  have hg := hS.hg
  unfold lokA
  refine okI (fun c => ?_) (fun _ => ⟨hS', hB⟩)
  obtain ⟨l, hh, hl, rfl, rfl, h1, h2, hpos⟩ := whyL0 hg c
  have hl6 : l < 6 := Nat.lt_of_lt_of_le hl hg.1
  have hb12 := (hg.2 l hl).2.1
  have eS : lokS S (nI l) (nI hh) = (keepS S).sp (lockP S.g S.r l hh) := by
    unfold lokS
    rw [nI_clamp (by omega), nI_clamp (by omega)]
  rw [eS]
  have hp := lockP_ok (b := b) (g := S.g) (r := S.r) (l := l) (h := hh) hS.1 hl h1 h2
  exact ⟨hS'.keep.sp (hp.up (by omega)) ⟨rfl, rfl, rfl, rfl⟩, fun i hi => hB i hi⟩
theorem okA_back {b : Nat} {S : Sy} (hS : S.ok b) (hb : b < 2 ^ 30) (hB : bufOK S) : okA (b + 60) (bakA S) := by
  have hS' : S.ok (b + 60) := hS.up (by omega)
  unfold bakA
  refine okI (fun c => ?_) (fun _ => ⟨hS', hB⟩)
  obtain ⟨ha, hpos, l, hh, s, m, e1, e2, e3, e4, n2, n3, n4, e5, e6, e7, e8, e9, e10, e11, e12⟩ := whyB0 (g := S.g) (r := S.r) hS.1 hb c
  have eS : bakS S = (keepS S).sp (backP S.g S.r l hh s) := by
    unfold bakS
    rw [n2, n3, n4]
  rw [eS]
  have hp := backP_ok (b := b) (g := S.g) (r := S.r) (l := l) (h := hh) (s := s) (m := m) hS.1 e1 e5 e8 e9 e10 e11 e12
  exact ⟨hS'.keep.sp (hp.up (by omega)) ⟨rfl, rfl, rfl, rfl⟩, fun i hi => hB i hi⟩
theorem okA_pass {b : Nat} {S : Sy} (hS : S.ok b) (hB : bufOK S) : okA (b + 60) (pasA S) := by
  have hS' : S.ok (b + 60) := hS.up (by omega)
  unfold pasA
  refine okI (fun _ => ⟨hS', hB⟩) (fun _ => okI (fun c => ?_) (fun _ => ⟨hS', hB⟩))
  have hp := passP_ok (b := b) (g := S.g) (r := S.r) hS.1
  exact ⟨hS'.keep.sp (hp.up (by omega)) ⟨rfl, rfl, rfl, rfl⟩, fun i hi => hB i hi⟩
theorem okA_play {b : Nat} {S : Sy} {x : Int32} (hS : S.ok b) (hB : bufOK S) : okA (b + 60) (plyA S x) := by
  have hS' : S.ok (b + 60) := hS.up (by omega)
  unfold plyA
  refine okI (fun _ => ⟨hS', hB⟩) (fun c => ?_)
  obtain ⟨m, m1, m2, rfl⟩ := rng (a := 1) (b := 60) (by omega) (by omega) (fun q => c (Or.inl q)) (fun q => c (Or.inr q))
  rw [nI_clamp (by omega)]
  obtain ⟨h1, h2, h3⟩ := plN_ok m b S.p hS.1
  exact ⟨hS'.keep.sp (h1.up (by omega)) h2, fun i hi => hB i hi⟩
theorem okA_undo {b : Nat} {S : Sy} (hS : S.ok b) (hB : bufOK S) : okA (b + 60) (undA S) := by
  have hS' : S.ok (b + 60) := hS.up (by omega)
  unfold undA
  exact okI (fun _ => ⟨hS', hB⟩) (fun c => ⟨hS'.undo (Nat.pos_of_ne_zero c), fun i hi => hB i hi⟩)
theorem okA_save {b : Nat} {S : Sy} {x : Int32} (hS : S.ok b) (hB : bufOK S) : okA (b + 60) (savA S x) := by
  have hS' : S.ok (b + 60) := hS.up (by omega)
  unfold savA
  exact okI (fun _ => ⟨hS', hB⟩) (fun c => ⟨hS'.save, fun i hi => hB i hi⟩)
theorem okA_restore {b : Nat} {S : Sy} {x : Int32} (hS : S.ok b) (hB : bufOK S) : okA (b + 60) (resA S x) := by
  have hS' : S.ok (b + 60) := hS.up (by omega)
  unfold resA
  refine okI (fun _ => ⟨hS', hB⟩) (fun c => okI (fun hs => ?_) (fun _ => ⟨hS', hB⟩))
  obtain ⟨k, hk, rfl⟩ := wi2 c
  rw [nI_clamp (by omega)] at hs ⊢
  exact ⟨hS'.rest hk hs, fun i hi => hB i hi⟩
theorem ap4_ok {B : Nat × (Nat → Int32)} {p : Int32} (h : ∀ i, i < B.1 → byI (B.2 i)) : ∀ i, i < (ap4 B p).1 → byI ((ap4 B p).2 i) := by
  intro i hi
  have hi : i < B.1 + 4 := hi
  show byI (upd (upd (upd (upd B.2 B.1 (byP p 24)) (B.1 + 1) (byP p 16)) (B.1 + 2) (byP p 8)) (B.1 + 3) (byP p 0) i)
  by_cases q3 : i = B.1 + 3
  · rw [q3, pk_us]
    exact byP_ok p 0
  rw [pk_un q3]
  by_cases q2 : i = B.1 + 2
  · rw [q2, pk_us]
    exact byP_ok p 8
  rw [pk_un q2]
  by_cases q1 : i = B.1 + 1
  · rw [q1, pk_us]
    exact byP_ok p 16
  rw [pk_un q1]
  by_cases q0 : i = B.1
  · rw [q0, pk_us]
    exact byP_ok p 24
  rw [pk_un q0]
  exact h i (by omega)
theorem okA_append {b0 : Nat} {S : Sy} {a b c d e : Int32} (hS : S.ok b0) (hB : bufOK S) : okA (b0 + 60) (apdA S a b c d e) := by
  have hS' : S.ok (b0 + 60) := hS.up (by omega)
  unfold apdA
  refine okI (fun q => ⟨⟨hS'.1, hS'.2.1, hS'.2.2.1, hS'.2.2.2.1, ?_⟩, ?_⟩) (fun _ => ⟨hS', hB⟩)
  · show S.len + 4 + 4 + 4 + 4 + 4 ≤ 400
    omega
  · exact ap4_ok (ap4_ok (ap4_ok (ap4_ok (ap4_ok (B := S.2.2.2) hB))))
theorem okA_parse {b : Nat} {S : Sy} {x : Int32} (hS : S.ok b) (hB : bufOK S) : okA (b + 60) (parA S x) := by
  have hS' : S.ok (b + 60) := hS.up (by omega)
  unfold parA
  refine okI (fun _ => ⟨hS', hB⟩) (fun _ => ?_)
  cases e : gamE S.buf x.toNatClampNeg with
  | error k => exact ⟨⟨hS'.1, hS'.2.1, hS'.2.2.1, hS'.2.2.2.1, Nat.zero_le _⟩, fun i hi => absurd hi (Nat.not_lt_zero i)⟩
  | ok D =>
    obtain ⟨d1, d2, d3⟩ := gamE_ok e
    exact ⟨⟨⟨d1, ⟨d3, fun i _ => d2 (i % 3) (Nat.mod_lt _ (by decide)), fun l _ => ⟨Nat.zero_le _, fun _ => rfl⟩, Nat.zero_le _⟩, fun h => absurd h (Nat.lt_irrefl 0)⟩, Nat.zero_le _, fun i hi => absurd hi (Nat.not_lt_zero i), fun k _ h => Bool.noConfusion h, Nat.zero_le _⟩, fun i hi => absurd hi (Nat.not_lt_zero i)⟩
/-- answers that change nothing -/
theorem okA_same {b : Nat} {S : Sy} {a : An} (hS : S.ok b) (hB : bufOK S) (h : a.2.2 = S) : okA (b + 60) a := by
  unfold okA
  rw [h]
  exact ⟨hS.up (by omega), hB⟩
theorem if_22 {c : Prop} [Decidable c] {A B : An} {S : Sy} (h1 : A.2.2 = S) (h2 : B.2.2 = S) : (if c then A else B).2.2 = S := by
  by_cases h : c
  · rw [if_pos h]
    exact h1
  · rw [if_neg h]
    exact h2
/-! the start -/
def r00 : Rs := (fun _ => -1, fun _ => 0, fun _ => 1, fun _ => 0, 0, 0, (-1, -1, -1), fun _ => 0)
def S00 : Sy := ((g00, r00), (0, fun _ => (g00, r00)), (fun _ => false, fun _ => (g00, r00)), (0, fun _ => 0))
theorem S00_ok : S00.ok 0 := ⟨⟨g00_ok, ⟨Nat.zero_le _, fun _ _ => (by decide : 1 ≤ 9), fun l hl => absurd hl (Nat.not_lt_zero l), Nat.zero_le _⟩, fun h => absurd h (Nat.lt_irrefl 0)⟩, Nat.zero_le _, fun i hi => absurd hi (Nat.not_lt_zero i), fun k _ h => Bool.noConfusion h, Nat.zero_le _⟩
theorem S00_C {w : Wd} (h : St0 w) : CI w S00 := by
  obtain ⟨h1, ⟨⟨h2, h3⟩, ⟨t1, t2, t3, t4, t5, t6, t7⟩, _⟩, u1, u2, u3, u4⟩ := id h
  refine ⟨GC_0 h, ⟨fun l hl => absurd hl (Nat.not_lt_zero l), fun i hi => ⟨t6 i hi, t7 i⟩, t1, t2, t3, t4, t5, fun i _ q => absurd q (Nat.not_lt_zero _)⟩, ⟨0, by decide, u1, u2, fun i hi => absurd hi (Nat.not_lt_zero i)⟩, fun k hk => ⟨?_, fun q => Bool.noConfusion q⟩, h1, fun i hi => absurd hi (Nat.not_lt_zero i)⟩
  rcases (show k = 0 ∨ k = 1 by omega) with rfl | rfl
  · exact u3
  · exact u4

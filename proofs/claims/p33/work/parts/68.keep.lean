/-! what the rules keep is kept -/
theorem Gm.ok.sco {g : Gm} (hg : g.ok) {l v : Nat} (_hl : l < g.n) (h1 : v < 2 ^ (g.top l + 1)) (h2 : v.testBit 0 = false) (h3 : pop v ≤ g.cn l) : (g.sco l v).ok := by
  refine ⟨hg.1, fun k hk => ?_⟩
  obtain ⟨d1, d2, d3, d4, d5, d6, d7, d8, d9, d10⟩ := hg.2 k hk
  refine ⟨d1, d2, d3, d4, d5, d6, d7, ?_, ?_, ?_⟩
  · show (if k = l then v else g.co k) < 2 ^ (g.top k + 1)
    by_cases q : k = l
    · rw [if_pos q, q]; exact h1
    · rw [if_neg q]; exact d8
  · show (if k = l then v else g.co k).testBit 0 = false
    by_cases q : k = l
    · rw [if_pos q]; exact h2
    · rw [if_neg q]; exact d9
  · show pop (if k = l then v else g.co k) ≤ g.cn k
    by_cases q : k = l
    · rw [if_pos q, q]; exact h3
    · rw [if_neg q]; exact d10
theorem Gm.ok.slk {g : Gm} (hg : g.ok) {l v : Nat} (h1 : v < 8192) (h2 : v.testBit 0 = false) : (g.slk l v).ok := by
  refine ⟨hg.1, fun k hk => ?_⟩
  obtain ⟨d1, d2, d3, d4, d5, d6, d7, d8, d9, d10⟩ := hg.2 k hk
  refine ⟨d1, d2, d3, d4, d5, ?_, ?_, d8, d9, d10⟩
  · show (if k = l then v else g.lk k) < 8192
    by_cases q : k = l
    · rw [if_pos q]; exact h1
    · rw [if_neg q]; exact d6
  · show (if k = l then v else g.lk k).testBit 0 = false
    by_cases q : k = l
    · rw [if_pos q]; exact h2
    · rw [if_neg q]; exact d7
theorem finR_ok {b n : Nat} {r : Rs} {k l h s : Int32} (hr : r.ok b n) : (finR r k l h s).ok (b + 1) n := by
  obtain ⟨h1, h2, h3, h4⟩ := hr
  refine ⟨?_, h2, fun i hi => ⟨?_, fun q => ?_⟩, ?_⟩
  · show 1 - r.tu ≤ 1
    omega
  · show r.la i - 1 ≤ 3
    have := (h3 i hi).1
    omega
  · have q : r.la i - 1 = 0 := q
    show (if r.la i ≤ 1 then -1 else r.ow i) = -1
    rw [if_pos (by omega)]
  · show r.ac + 1 ≤ b + 1
    omega
theorem lg0 (f : Nat → Int32) (a : Nat) (k t l h s : Int32) : lgU f a k t l h s (rowN a) = k := by
  unfold lgU
  rw [if_neg (by omega), if_neg (by omega), if_neg (by omega), if_neg (by omega), if_pos rfl]
theorem lg2 (f : Nat → Int32) (a : Nat) (k t l h s : Int32) : lgU f a k t l h s (rowN a + 2) = l := by
  unfold lgU
  rw [if_neg (by omega), if_neg (by omega), if_pos rfl]
theorem lg3 (f : Nat → Int32) (a : Nat) (k t l h s : Int32) : lgU f a k t l h s (rowN a + 3) = h := by
  unfold lgU
  rw [if_neg (by omega), if_pos rfl]
theorem lg4 (f : Nat → Int32) (a : Nat) (k t l h s : Int32) : lgU f a k t l h s (rowN a + 4) = s := by
  unfold lgU
  rw [if_pos rfl]
theorem stepP_ok {b : Nat} {g : Gm} {r : Rs} {l h s : Nat} (hp : Ps.ok b (g, r)) (hc : inC g r (l, h, s)) : Ps.ok (b + 1) (stepP g r l h s) := by
  obtain ⟨hg, hr, _⟩ := hp
  have hg : g.ok := hg
  have hr : r.ok b g.n := hr
  obtain ⟨c1, c2, c3, c4, c5, c6⟩ := hc
  have c1 : l < g.n := c1
  have c3 : h ≤ g.top l := c3
  have c4 : 1 ≤ s := c4
  have c5 : s ≤ 12 := c5
  obtain ⟨b1, b2, b3, b4, b5, b6, b7, b8, b9, b10⟩ := hg.2 l c1
  have hok : okS (g.lk l) (g.sz l) (g.co l) h s = true := (alB_ok c6).1
  have hlt := nx_lt hok (by omega) b9
  have hpop := pop_nx hok (by omega) (by omega) b9
  refine ⟨hg.sco c1 (Nat.lt_trans hlt b8) (nx_0 _ _ _) (Nat.le_trans hpop b10), finR_ok hr.act_ok.act_ok, fun _ _ => ⟨l, h, s, g.co l, c1, lg2 _ _ _ _ _ _ _, lg3 _ _ _ _ _ _ _, lg4 _ _ _ _ _ _ _, c4, c5, hok, ?_, b8, b9, b10⟩⟩
  show (if l = l then nx (g.co l) h s else g.co l) = nx (g.co l) h s
  rw [if_pos rfl]
theorem passP_ok {b : Nat} {g : Gm} {r : Rs} (hp : Ps.ok b (g, r)) : Ps.ok (b + 1) (passP g r) := by
  obtain ⟨hg, hr, _⟩ := hp
  have hr : r.ok b g.n := hr
  refine ⟨hg, finR_ok hr.act_ok, fun _ e => ?_⟩
  have e : lgU (r.act 2 1).lg (r.act 2 1).ac 4 (nI (r.act 2 1).tu) (-1) (-1) (-1) (rowN (r.act 2 1).ac) = 0 := e
  rw [lg0] at e
  exact absurd e (by decide)
theorem claimP_ok {b l : Nat} {g : Gm} {r : Rs} (hp : Ps.ok b (g, r)) : Ps.ok (b + 1) (claimP g r l) := by
  obtain ⟨hg, hr, _⟩ := hp
  have hr : r.ok b g.n := hr
  have hf := finR_ok (k := 1) (l := nI l) (h := -1) (s := -1) (hr.dtk_ok (k := 0))
  obtain ⟨f1, f2, f3, f4⟩ := hf
  refine ⟨hg, ⟨f1, f2, fun i hi => ⟨?_, fun q => ?_⟩, f4⟩, fun _ e => ?_⟩
  · show (if i = l then 3 else (finR (r.dtk 0) 1 (nI l) (-1) (-1)).la i) ≤ 3
    by_cases q : i = l
    · rw [if_pos q]; omega
    · rw [if_neg q]; exact (f3 i hi).1
  · have q : (if i = l then 3 else (finR (r.dtk 0) 1 (nI l) (-1) (-1)).la i) = 0 := q
    show (if i = l then nI r.tu else (finR (r.dtk 0) 1 (nI l) (-1) (-1)).ow i) = -1
    by_cases q2 : i = l
    · rw [if_pos q2] at q
      omega
    · rw [if_neg q2] at q ⊢
      exact (f3 i hi).2 q
  · have e : lgU (r.dtk 0).lg (r.dtk 0).ac 1 (nI (r.dtk 0).tu) (nI l) (-1) (-1) (rowN (r.dtk 0).ac) = 0 := e
    rw [lg0] at e
    exact absurd e (by decide)
theorem lockP_ok {b l h : Nat} {g : Gm} {r : Rs} (hp : Ps.ok b (g, r)) (hl : l < g.n) (h1 : 1 ≤ h) (h2 : h ≤ g.top l) : Ps.ok (b + 1) (lockP g r l h) := by
  obtain ⟨hg, hr, _⟩ := hp
  have hg : g.ok := hg
  have hr : r.ok b g.n := hr
  obtain ⟨b1, b2, b3, b4, b5, b6, b7, b8, b9, b10⟩ := hg.2 l hl
  refine ⟨hg.slk (lt13 (fun j hj => ?_)) ?_, finR_ok hr.dtk_ok, fun _ e => ?_⟩
  · rw [Nat.testBit_or, tb_big b6 hj, Nat.testBit_two_pow, decide_eq_false (by omega)]
    rfl
  · rw [Nat.testBit_or, b7, Nat.testBit_two_pow, decide_eq_false (by omega)]
    rfl
  · have e : lgU (r.dtk 1).lg (r.dtk 1).ac 2 (nI (r.dtk 1).tu) (nI l) (nI h) (-1) (rowN (r.dtk 1).ac) = 0 := e
    rw [lg0] at e
    exact absurd e (by decide)
theorem mv_nx {l z m h s : Nat} (hok : okS l z m h s = true) (hs : 0 < s) (h0 : m.testBit 0 = false) : mv (nx m h s) (h - s) h = m := by
  obtain ⟨k1, k2, k3, k4, k5⟩ := okS_sp hok
  apply Nat.eq_of_testBit_eq
  intro i
  rw [tb_mv]
  unfold nx
  rw [tb_mv]
  by_cases e0 : i = 0
  · rw [e0, h0]
    simp
  · by_cases e1 : i = h
    · rw [e1, k1]
      have : h ≠ 0 := fun e => e0 (e1.trans e)
      simp [this]
    · by_cases e2 : i = h - s
      · rw [e2, k5]
        have : h - s ≠ h := by omega
        simp [this]
      · simp [e0, e1, e2]
/-- the model takes a coin back to the same set -/
theorem back_m {l z m h s : Nat} (hok : okS l z m h s = true) (hs : 0 < s) (h0 : m.testBit 0 = false) : (if h - s = 0 then nx m h s else nx m h s ^^^ 2 ^ (h - s)) ||| 2 ^ h = m := by
  obtain ⟨k1, k2, k3, k4, k5⟩ := okS_sp hok
  apply Nat.eq_of_testBit_eq
  intro i
  rw [Nat.testBit_or, Nat.testBit_two_pow]
  by_cases e : h - s = 0
  · rw [if_pos e]
    unfold nx
    rw [tb_mv]
    by_cases e0 : i = 0
    · have : ¬ h = 0 := fun q => by rw [q, h0] at k1; cases k1
      rw [e0, h0]
      simp [this]
    · by_cases e1 : i = h
      · rw [e1, k1]
        simp
      · have q1 : ¬ h = i := fun q => e1 q.symm
        rw [e]
        simp [e0, e1, q1]
  · rw [if_neg e, Nat.testBit_xor, Nat.testBit_two_pow]
    unfold nx
    rw [tb_mv]
    by_cases e0 : i = 0
    · have q1 : ¬ h = 0 := fun q => by rw [q, h0] at k1; cases k1
      rw [e0, h0]
      simp [q1, e]
    · by_cases e1 : i = h
      · rw [e1, k1]
        simp
      · have q1 : ¬ h = i := fun q => e1 q.symm
        by_cases e2 : i = h - s
        · rw [e2, k5]
          have : h - s ≠ h := by omega
          have t2 : ¬ h = h - s := by omega
          simp [this, e, t2]
        · have q2 : ¬ h - s = i := fun q => e2 q.symm
          simp [e0, e1, e2, q1, q2]
theorem backP_ok {b l h s m : Nat} {g : Gm} {r : Rs} (hp : Ps.ok b (g, r)) (hl : l < g.n) (hs : 0 < s) (hok : okS (g.lk l) (g.sz l) m h s = true) (hco : g.co l = nx m h s) (h1 : m < 2 ^ (g.top l + 1)) (h2 : m.testBit 0 = false) (h3 : pop m ≤ g.cn l) : Ps.ok (b + 1) (backP g r l h s) := by
  obtain ⟨hg, hr, _⟩ := hp
  have hg : g.ok := hg
  have hr : r.ok b g.n := hr
  have e : mv (g.co l) (h - s) h = m := by rw [hco]; exact mv_nx hok hs h2
  have hf := finR_ok (k := 3) (l := nI l) (h := nI h) (s := nI s) (hr.dtk_ok (k := 2))
  refine ⟨?_, hf, fun _ e => ?_⟩
  · show (g.sco l (mv (g.co l) (h - s) h)).ok
    rw [e]
    exact hg.sco hl h1 h2 h3
  · have e : lgU (r.dtk 2).lg (r.dtk 2).ac 3 (nI (r.dtk 2).tu) (nI l) (nI h) (nI s) (rowN (r.dtk 2).ac) = 0 := e
    rw [lg0] at e
    exact absurd e (by decide)
theorem playP_ok {b : Nat} {g : Gm} {r : Rs} (hp : Ps.ok b (g, r)) : Ps.ok (b + 1) (playP g r) := by
  unfold playP
  by_cases q : (chs g r).length = 0
  · rw [if_pos q]
    exact passP_ok hp
  · rw [if_neg q]
    exact stepP_ok hp (plC_in q)
theorem playP_same (g : Gm) (r : Rs) : sameS g (playP g r).1 := by
  unfold playP
  by_cases q : (chs g r).length = 0
  · rw [if_pos q]
    exact sameS.rf g
  · rw [if_neg q]
    exact sameS.rf g
theorem Sy.ok.sp {b : Nat} {S : Sy} {p : Ps} (h : S.ok b) (hp : p.ok b) (hs : sameS S.g p.1) : (S.sp p).ok b :=
  ⟨hp, h.2.1, fun i hi => ⟨(h.2.2.1 i hi).1, hs.sy.tr (h.2.2.1 i hi).2⟩, fun k hk q => ⟨(h.2.2.2.1 k hk q).1, hs.sy.tr (h.2.2.2.1 k hk q).2⟩, h.2.2.2.2⟩
theorem Sy.ok.keep {b : Nat} {S : Sy} (h : S.ok b) : (keepS S).ok b := by
  refine ⟨h.1, ?_, fun i hi => ?_, h.2.2.2.1, h.2.2.2.2⟩
  · show (if S.d < 10 then S.d + 1 else 10) ≤ 10
    by_cases q : S.d < 10
    · rw [if_pos q]; omega
    · rw [if_neg q]; omega
  · have hi : i < (if S.d < 10 then S.d + 1 else 10) := hi
    have hd := h.2.1
    show Ps.ok b (if i = 0 then S.p else S.H (i - 1)) ∧ sameS S.g (if i = 0 then S.p else S.H (i - 1)).1
    by_cases q : i = 0
    · rw [if_pos q]
      exact ⟨h.1, sameS.rf _⟩
    · rw [if_neg q]
      refine h.2.2.1 (i - 1) ?_
      by_cases q2 : S.d < 10
      · rw [if_pos q2] at hi; omega
      · rw [if_neg q2] at hi; omega
theorem Sy.ok.undo {b : Nat} {S : Sy} (h : S.ok b) (hd : 0 < S.d) : (undoS S).ok b := by
  obtain ⟨p0, s0⟩ := h.2.2.1 0 hd
  refine ⟨p0, ?_, fun i hi => ?_, fun k hk q => ⟨(h.2.2.2.1 k hk q).1, s0.sy.tr (h.2.2.2.1 k hk q).2⟩, h.2.2.2.2⟩
  · show S.d - 1 ≤ 10
    have := h.2.1
    omega
  · have hi : i < S.d - 1 := hi
    have := h.2.2.1 (i + 1) (by omega)
    exact ⟨this.1, s0.sy.tr this.2⟩
theorem Sy.ok.save {b k : Nat} {S : Sy} (h : S.ok b) : (saveS S k).ok b := by
  refine ⟨h.1, h.2.1, h.2.2.1, fun j hj q => ?_, h.2.2.2.2⟩
  have q : (if j = k then true else S.sv j) = true := q
  show Ps.ok b (if j = k then S.p else S.T j) ∧ sameS S.g (if j = k then S.p else S.T j).1
  by_cases e : j = k
  · rw [if_pos e]
    exact ⟨h.1, sameS.rf _⟩
  · rw [if_neg e] at q ⊢
    exact h.2.2.2.1 j hj q
theorem Sy.ok.rest {b k : Nat} {S : Sy} (h : S.ok b) (hk : k < 2) (hs : S.sv k = true) : (restS S k).ok b := by
  obtain ⟨p0, s0⟩ := h.2.2.2.1 k hk hs
  exact ⟨p0, Nat.zero_le _, fun i hi => absurd hi (Nat.not_lt_zero i), fun j hj q => ⟨(h.2.2.2.1 j hj q).1, s0.sy.tr (h.2.2.2.1 j hj q).2⟩, h.2.2.2.2⟩

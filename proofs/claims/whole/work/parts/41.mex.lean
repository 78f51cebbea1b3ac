/-! the model's least number that is not there, by a loop without a bound -/
theorem wm_mex {w : Wd} {q v0 : Nat} {J : Int32 → Wd → Prop} {Post : Int32 → Wd → Prop} (hq : q < 8192) (hJ : ∀ (x : Int32) (w : Wd), wp_X9_has w (nI q) x (fun r w1 => (r = 0 → Post x w1) ∧ (¬ r = 0 → ∀ y : Int32, y = x + 1 → J y w1)) → J x w) (hm : mex (fun v => q.testBit v) ≤ 12) (h : Post (nI (mex (fun v => q.testBit v))) w) : J 0 w := by
  have key : ∀ k v, v + k = mex (fun v => q.testBit v) → J (nI v) w := by
    intro k
    induction k with
    | zero =>
      intro v hv
      refine hJ _ _ (wh_has (by omega) (by omega) ?_)
      rw [bI_0]
      have hn := mex_no (fun v => q.testBit v) (by omega)
      have e : v = mex (fun v => q.testBit v) := by omega
      refine ⟨fun _ => ?_, fun c => absurd (by rw [e]; exact hn) c⟩
      rw [e]
      exact h
    | succ k ih =>
      intro v hv
      refine hJ _ _ (wh_has (by omega) (by omega) ?_)
      rw [bI_0]
      have hy := mex_lt (fun v => q.testBit v) (u := v) (by omega)
      refine ⟨fun c => absurd (show q.testBit v = true from hy) (by rw [c]; decide), fun _ y ey => ?_⟩
      subst ey
      rw [nI_1]
      exact ih (v + 1) (by omega)
  exact key _ 0 (Nat.zero_add _)

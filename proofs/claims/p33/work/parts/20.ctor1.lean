/-! constructors: from the list of cells in the making to a small world, and back -/
theorem inj_of_D {E : En} {A : Nat → Prop} {w : Wd} (hn : (eL E).Nodup) (hD : va_D A (wsE E w)) : Inj E := by
  refine ⟨hn, fun i j hi hj h => ?_⟩
  obtain ⟨k1, h1⟩ := List.getElem?_of_mem hi
  obtain ⟨k2, h2⟩ := List.getElem?_of_mem hj
  have := hD.1 k1 k2 _ _ (ws_i (w := w) h1) (ws_i (w := w) h2) h
  subst this
  rw [h1] at h2
  exact Option.some.inj h2
theorem D_w {E : En} {A : Nat → Prop} {w w' : Wd} (hD : va_D A (wsE E w)) : va_D A (wsE E w') := by
  refine ⟨fun i j p q hi hj h => ?_, fun k q hk => ?_⟩
  · obtain ⟨a, h1, rfl⟩ := ws_of hi
    obtain ⟨b, h2, rfl⟩ := ws_of hj
    exact hD.1 i j _ _ (ws_i (w := w) h1) (ws_i (w := w) h2) h
  · obtain ⟨a, h1, rfl⟩ := ws_of hk
    exact hD.2 k (eA E a, ce E w a) (ws_i (w := w) h1)
section CT1
variable {E : En} {p : Program} {l : Launch} {e : Env} {R : Room} {s : State} {m : MethodId} {args : Array Value} {below : List Frame} {meth : Method} {c : Code} {H : Heap} {locs : List Loc} {cells slots : Nat} {Q : State → Prop} {cc : ByteArray} {nL pc : Nat} {own : String} {ls : Array Slot} {rest st0 : List Value} {A : Nat → Prop} {X pl : va_W}
theorem AA_in {ids : List Nat} {u : Nat → Nat} {w : Wd} (C : Cc E A p s m args c cc nL own) (hD : va_D A (wsE (EW E ids u) w)) : ∀ x, AA (EW E ids u) s.heap.size x → A x := by
  intro x h
  rcases h with ⟨o, ho, h⟩ | h
  · obtain ⟨k0, hk0⟩ := List.getElem?_of_mem ho
    rw [h]
    exact hD.2 k0 _ (ws_i (w := w) hk0)
  · exact C.2.2.2.2.2.2.2 x (h.resolve_left (fun q => q))
theorem ct_enter {ids : List Nat} {u : Nat → Nat} {w : Wd} (C : Cc E A p s m args c cc nL own) (hn : ids.Nodup) (hP : va_P E.1 vwCl (wsE (EW E ids u) w) H) (hD : va_D A (wsE (EW E ids u) w)) (hS : va_S A s.heap H locs) (hA : ∀ q, A q → AA (EW E ids u) s.heap.size q) : Cx (EW E ids u) p s m args c cc nL own ∧ Wo (EW E ids u) s w H locs := by
  obtain ⟨h1, h2, h3, h4, h5, h6, h7, h8⟩ := id C
  refine ⟨⟨h1, h2, h3, h4, h5, h6, ?_, inj_of_D (w := w) hn hD⟩, hP, hS.mono hA⟩
  have n := AA_in (ids := ids) (u := u) (w := w) C hD
  exact h7.less rfl n
theorem ct_ret {ids : List Nat} {u : Nat → Nat} {w : Wd} {h0 hd : Nat} {post : Wd → Prop} (C : Cc E A p s m args c cc nL own) (hr : meth.sig.returnType = none) (hlk : meth.locks = false) (hP : va_P E.1 vwCl (wsE (EW E ids u) w) H) (hD : va_D A (wsE (EW E ids u) w)) (hS : va_S A s.heap H locs) (h1 : u hd = h0) (h2 : post w) (hdg : decode cc pc = .ok (.return_, 1)) :
    W p l e R s m args below meth c H locs cells slots (MQ below (va_Qv (fun u : (Nat → Nat) × Wd => u.1 hd = h0 ∧ post u.2) (BC E ids A) A) args s cells slots A) (F0 m pc ls []) :=
  W.vret C.1 C.2.1 hr (fun t ht _ => ⟨⟨(u, w), rfl, ⟨h1, h2⟩, by show va_P _ _ _ t.heap; rw [ht]; exact hP, hD⟩, hS.F ht⟩) hS.2.2 hdg hlk
theorem ct_retE {ids : List Nat} {u : Nat → Nat} {w0 w : Wd} {h0 hd : Nat} {post : Wd → Prop} (C : Cc E A p s m args c cc nL own) (hr : meth.sig.returnType = none) (hlk : meth.locks = false) (hD : va_D A (wsE (EW E ids u) w0)) (hw : Wo (EW E ids u) s w H locs) (h1 : u hd = h0) (h2 : post w) (hdg : decode cc pc = .ok (.return_, 1)) :
    W p l e R s m args below meth c H locs cells slots (MQ below (va_Qv (fun u : (Nat → Nat) × Wd => u.1 hd = h0 ∧ post u.2) (BC E ids A) A) args s cells slots A) (F0 m pc ls []) :=
  ct_ret C hr hlk hw.1 (D_w hD) (hw.2.mono (AA_in (w := w0) C hD)) h1 h2 hdg
end CT1
theorem AA_of {E : En} {ids : List Nat} {u : Nat → Nat} {hd h0 sz : Nat} {e0 : va_E} (hm : hd ∈ ids) (hu : u hd = h0) : ∀ q, va_A [(h0, e0)] sz q → AA (EW E ids u) sz q := by
  intro q h
  rcases h with ⟨j, y, h⟩ | h
  · have hj : j = 0 := by
      have := (List.getElem?_eq_some_iff.mp h).1
      simp at this
      omega
    subst hj
    cases h
    exact Or.inl ⟨hd, hm, hu.symm⟩
  · exact Or.inr (Or.inr h)
theorem ct_swap {D : va_G} {cl : List vw_C} {A : Nat → Prop} {ws : va_W} {H : Heap} (hP : va_P D cl ws H) (hD : va_D A ws) (p : Nat) {a N : Nat} {c : ClassId} {f g : Nat → Option Nat} (hp : ws[p]? = some (a, .inl (c, N, .inr (.inr (.inr (.inr f)))))) (hfg : ∀ j, j < N → f j = g j) : va_P D cl (ws.set p (a, .inl (c, N, .inr (.inr (.inr (.inr g)))))) H ∧ va_D A (ws.set p (a, .inl (c, N, .inr (.inr (.inr (.inr g)))))) := by
  refine ⟨?_, hD.set hp⟩
  intro k q hk
  by_cases h : k = p
  · subst h
    have hl := (List.getElem?_eq_some_iff.mp hp).1
    rw [List.getElem?_set_self hl] at hk
    cases hk
    have h0 := hP _ _ hp
    have e : vp_cell c (N, .inr (.inr (.inr (.inr f)))) = vp_cell c (N, .inr (.inr (.inr (.inr g)))) := by
      rw [vp_cell_q, vp_cell_q]
      unfold arrV
      congr 2
      funext j
      show va_rf (f j.val) = va_rf (g j.val)
      rw [hfg j.val j.isLt]
    exact Eq.trans h0 (congrArg some e)
  · rw [List.getElem?_set_ne (fun q => h q.symm)] at hk
    exact hP k q hk

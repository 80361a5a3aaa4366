theorem pfold_app {o : Bool} : ∀ (l A : List EV), A.length + l.length ≤ 24 → l.foldl padd (A, o) = (A ++ l, o)
  | [], A, h => by simp
  | e :: r, A, h => by
    have h' : A.length + (r.length + 1) ≤ 24 := h
    show r.foldl padd (padd (A, o) e) = _
    have : padd (A, o) e = (A ++ [e], o) := by
      unfold padd
      dsimp only
      rw [if_pos (by omega)]
    rw [this, pfold_app r (A ++ [e]) (by rw [List.length_append]; simp; omega)]
    simp
theorem shE_0 {l : List EV} : l.map (shE 0) = l := by
  have : shE 0 = id := by
    funext e
    show (e.1 + 0, e.2.1, e.2.2) = e
    rw [Int.add_zero]
  rw [this, List.map_id]
theorem paddAll_nil {T : PS} (h : T.1.length ≤ 24) : paddAll ([], false) T 0 = (T.1, T.2) := by
  unfold paddAll
  rw [shE_0, pfold_app T.1 [] (by simpa using h)]
  simp
set_option maxRecDepth 100000 in
theorem s_becomes {Γ : AMG} {Q : QQ} {d p q : Nat} {I : II} {Lg : LJ} {R : RR} {gc : Nat → Nat} {T : PS} (hq : PlanAt I q T) (hpq : q ≠ p) (hr : ∀ e ∈ T.1, -1000000 ≤ e.1 ∧ e.1 ≤ 1000000)
    (h : ∀ I' : II, FrI (V1 pvars p) I I' → PlanAt I' p (srt T.1, T.2) → Q none I' Lg R (GM gc)) : am_Sp Γ (d + 3) 0 0 mX8_becomes [vR 8 p, vR 8 q] I Lg R (GM gc) Q := by
  have hl := hq.2.1
  refine am_run vX8_becomes 60 _ rfl rfl rfl rfl ?_
  refine s_pclear (fun I1 f1 p1 => ?_)
  refine s_addAll p1 (hq.ne f1 hpq) hpq rfl (fun I2 f2 p2 => ?_)
  rw [paddAll_nil hl] at p2
  exact becomes_loop hl hr h (T.1.length - 1) 0 _ I2 (by omega) rfl (f1.tr f2) p2

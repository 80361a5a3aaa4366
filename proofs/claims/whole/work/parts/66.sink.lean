/-! Plan.sink. -/
def sinkL : Nat → List EV → List EV
  | 0, es => es
  | k + 1, es => match es[k]?, es[k + 1]? with
    | some a, some b => if b.1 < a.1 then sinkL k ((es.set k b).set (k + 1) a) else es
    | _, _ => es
theorem sinkL_len : ∀ (k : Nat) (es : List EV), (sinkL k es).length = es.length
  | 0, es => rfl
  | k + 1, es => by
    unfold sinkL
    split
    · split
      · rw [sinkL_len k]
        simp
      · rfl
    · rfl
theorem swap_at {I I1 I2 I3 : II} {p k : Nat} {S : PS} {a b : EV} (hp : PlanAt I p S) (ha : S.1[k]? = some a) (hb : S.1[k + 1]? = some b) (f1 : FrI (V1 [115] p) I I1) (g1 : I1 115 p = swp (I 115 p) (k + 1)) (f2 : FrI (V1 [116] p) I1 I2) (g2 : I2 116 p = swp (I1 116 p) (k + 1)) (f3 : FrI (V1 [117] p) I2 I3) (g3 : I3 117 p = swp (I2 117 p) (k + 1)) :
    PlanAt I3 p ((S.1.set k b).set (k + 1) a, S.2) := by
  obtain ⟨h1, h2, h3, h4⟩ := hp
  have hk := (List.getElem?_eq_some_iff.mp hb).1
  refine ⟨?_, by simpa using h2, ?_, fun j e he => ?_⟩
  · rw [f3 _ _ rfl, f2 _ _ rfl, f1 _ _ rfl, h1]; simp
  · rw [f3 _ _ rfl, f2 _ _ rfl, f1 _ _ rfl]; exact h3
  · have e1 : I3 115 p = swp (I 115 p) (k + 1) := by rw [f3 _ _ rfl, f2 _ _ rfl, g1]
    have e2 : I3 116 p = swp (I 116 p) (k + 1) := by rw [f3 _ _ rfl, g2, f1 _ _ rfl]
    have e3 : I3 117 p = swp (I 117 p) (k + 1) := by rw [g3, f2 _ _ rfl, f1 _ _ rfl]
    rw [e1, e2, e3]
    unfold swp
    rw [Nat.add_sub_cancel]
    obtain ⟨a1, a2, a3⟩ := h4 k a ha
    obtain ⟨b1, b2, b3⟩ := h4 (k + 1) b hb
    by_cases hjk : j = k
    · subst hjk
      rw [List.getElem?_set_ne (by omega), List.getElem?_set_self (by omega)] at he
      cases he
      rw [if_pos rfl, if_pos rfl, if_pos rfl]
      exact ⟨b1, b2, b3⟩
    · by_cases hj1 : j = k + 1
      · subst hj1
        rw [List.getElem?_set_self (by simpa using hk)] at he
        cases he
        rw [if_neg hjk, if_neg hjk, if_neg hjk, if_pos rfl, if_pos rfl, if_pos rfl]
        exact ⟨a1, a2, a3⟩
      · rw [List.getElem?_set_ne (by omega), List.getElem?_set_ne (by omega)] at he
        rw [if_neg hjk, if_neg hjk, if_neg hjk, if_neg hj1, if_neg hj1, if_neg hj1]
        exact h4 j e he
set_option maxRecDepth 100000 in
theorem sink_loop {Γ : AMG} {Q : QQ} {d p : Nat} {x1 : Int32} {I : II} {Lg : LJ} {R : RR} {gc : Nat → Nat} :
    ∀ (k : Nat) (x2 : Int32) (I1 : II) (S : PS), x2 = zI k → (k < S.1.length ∨ k = 0) → PlanAt I1 p S → (∀ e ∈ S.1, -1000000 ≤ e.1 ∧ e.1 ≤ 1000000) → FrI (V1 pvars p) I I1 →
      (∀ I' : II, FrI (V1 pvars p) I I' → PlanAt I' p (sinkL k S.1, S.2) → Q none I' Lg R (GM gc)) →
      am_J Γ mX8_sink Q (d + 2) 0 0 2 [some (vR 8 p), some (vI x1), some (vI x2)] [] I1 Lg R (GM gc) := by
  intro k
  induction k with
  | zero =>
    intro x2 I1 S hx hk hp hr hf h
    refine am_go vX8_sink 60 ?_
    refine And.intro (fun c => ?_) (fun c => ?_)
    · exact h I1 hf hp
    · rw [hx, zI_toInt (by omega) (by omega)] at c
      omega
  | succ k ih =>
    intro x2 I1 S hx hk hp hr hf h
    have hsl := hp.2.1
    have hkl : k + 1 < S.1.length := by omega
    have ha : S.1[k]? = some S.1[k] := List.getElem?_eq_getElem (by omega)
    have hb : S.1[k + 1]? = some S.1[k + 1] := List.getElem?_eq_getElem (by omega)
    generalize S.1[k] = a at ha
    generalize S.1[k + 1] = b at hb
    have ra := hr a (List.mem_of_getElem? ha)
    have rb := hr b (List.mem_of_getElem? hb)
    have hs : sinkL (k + 1) S.1 = if b.1 < a.1 then sinkL k ((S.1.set k b).set (k + 1) a) else S.1 := by
      show (match S.1[k]?, S.1[k + 1]? with | some a, some b => if b.1 < a.1 then sinkL k ((S.1.set k b).set (k + 1) a) else S.1 | _, _ => S.1) = _
      rw [ha, hb]
    refine am_go vX8_sink 60 ?_
    refine And.intro (fun c => ?_) (fun c => ?_)
    · rw [hx, zI_toInt (by omega) (by omega)] at c
      omega
    refine s_tickOfE (k := k) hp (by rw [hx, zI_sub]; congr 1; omega) ha ?_
    refine s_tickOfE (k := k + 1) hp hx hb ?_
    refine And.intro (fun c2 => ?_) (fun c2 => ?_)
    · rw [zI_toInt (by omega) (by omega), zI_toInt (by omega) (by omega)] at c2
      rw [hs, if_neg (by omega)] at h
      exact h I1 hf hp
    · rw [zI_toInt (by omega) (by omega), zI_toInt (by omega) (by omega)] at c2
      rw [hs, if_pos (by omega)] at h
      refine s_swap_tick (e := k + 1) hx (by omega) (by omega) (fun I2 f2 g2 => ?_)
      refine s_swap_machine (e := k + 1) hx (by omega) (by omega) (fun I3 f3 g3 => ?_)
      refine s_swap_number (e := k + 1) hx (by omega) (by omega) (fun I4 f4 g4 => ?_)
      have hp4 := swap_at hp ha hb f2 g2 f3 g3 f4 g4
      refine ih _ I4 ((S.1.set k b).set (k + 1) a, S.2) (by rw [hx, zI_add]; congr 1; omega) (by simp; omega) hp4 (fun e he => ?_) ?_ h
      · rcases List.mem_or_eq_of_mem_set he with q | q
        · rcases List.mem_or_eq_of_mem_set q with q | q
          · exact hr e q
          · rw [q]; exact rb
        · rw [q]; exact ra
      · exact hf.tr ((f2.mono (fun v i h => V1_sub (by decide) h)).tr ((f3.mono (fun v i h => V1_sub (by decide) h)).tr (f4.mono (fun v i h => V1_sub (by decide) h))))

/-! event in the reference; the part of the class behind its check. -/
def evA (l : List MC) (e : EV) (w : Int) : Int := if w = 0 then e.1 else if w = 1 then e.2.1 else if w = 2 then e.2.2 else if w = 3 then etk l e else ewt l e
set_option maxRecDepth 100000 in
theorem s_mevent {Γ : AMG} {Q : QQ} {d : Nat} {x1 x2 : Int32} {I : II} {Lg : LJ} {R : RR} {gc : Nat → Nat} {l : List MC} {es : List EV} (hl : MCsok l) (hm : MMAt I l) (hp : MPAt I es) (hes : EVsok l es)
    (hno : ¬ (0 ≤ x1.toInt ∧ x1.toInt < es.length ∧ 0 ≤ x2.toInt ∧ x2.toInt ≤ 4) → Q (some (vI (zI 0))) (up3 I 47 0 0 (zI 1)) Lg R (GM gc))
    (hy : ∀ (k : Nat) (e : EV), x1 = zI k → es[k]? = some e → 0 ≤ x2.toInt → x2.toInt ≤ 4 → Q (some (vI (zI (evA l e x2.toInt)))) (up3 I 47 0 0 (zI 0)) Lg R (GM gc)) : am_Sp Γ (d + 1) 0 0 mX12_event [vR 12 0, vI x1, vI x2] I Lg R (GM gc) Q := by
  have hel := hes.1
  have hevt : (I 72 0 0).toInt = es.length := by rw [hp.1, zI_toInt (by omega) (by omega)]
  have f : FrI (V0 [47]) I (up3 I 47 0 0 (zI 0)) := FrI.rf.up rfl
  have hm1 := hm.fr f (V0_out (by decide))
  have hp1 := hp.fr f (V0_out (by decide))
  refine am_run vX12_event 60 _ rfl rfl rfl rfl ?_
  refine And.intro (fun c => ?_) (fun c => ?_)
  · exact s_refuse (hno (by omega))
  refine And.intro (fun c2 => ?_) (fun c2 => ?_)
  · rw [hevt] at c2
    exact s_refuse (hno (by omega))
  rw [hevt] at c2
  refine And.intro (fun c3 => ?_) (fun c3 => ?_)
  · exact s_refuse (hno (by omega))
  refine And.intro (fun c4 => ?_) (fun c4 => ?_)
  · rw [zI_toInt (by omega) (by omega)] at c4
    have hx1 : x1 = zI x1.toInt.toNat := by rw [show ((x1.toInt.toNat : Nat) : Int) = x1.toInt by omega, zI_self]
    have he : es[x1.toInt.toNat]? = some es[x1.toInt.toNat] := List.getElem?_eq_getElem (by omega)
    generalize es[x1.toInt.toNat] = e at he
    have h := hy _ e hx1 he (by omega) c4
    obtain ⟨q1, q2, q3⟩ := hp1.2 _ e he
    unfold evA at h
    refine And.intro (fun c => ?_) ⟨fun c => ?_, fun c => ?_, fun c => ?_, fun c => ?_, trivial⟩
    · rw [if_neg (by omega), if_neg (by omega), if_neg (by omega), if_neg (by omega)] at h
      exact s_mworth hl hm1 hp1 hes hx1 he h
    · rw [if_pos (by omega), ← q1] at h
      exact ⟨⟨by omega, by omega⟩, h⟩
    · rw [if_neg (by omega), if_pos (by omega), ← q2] at h
      exact ⟨⟨by omega, by omega⟩, h⟩
    · rw [if_neg (by omega), if_neg (by omega), if_pos (by omega), ← q3] at h
      exact ⟨⟨by omega, by omega⟩, h⟩
    · rw [if_neg (by omega), if_neg (by omega), if_neg (by omega), if_pos (by omega)] at h
      exact s_mtakes hl hm1 hp1 hes hx1 he h
  · rw [zI_toInt (by omega) (by omega)] at c4
    exact s_refuse (hno (by omega))

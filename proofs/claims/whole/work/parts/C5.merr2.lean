/-! The reference's err. -/
theorem foll_tk {rn : RUN} {g : Int32} {ls : Nat → Int} : ∀ (f : Nat) (t : Int) (S : FS), 1 ≤ t → t + f ≤ 2001 → (∀ e ∈ S.ks, 0 ≤ e.1 ∧ e.1 ≤ 2000) → ∀ e ∈ (foll rn g ls f t S).ks, 0 ≤ e.1 ∧ e.1 ≤ 2000
  | 0, _, _, _, _, h => h
  | f + 1, t, S, h1, h2, h => by
    unfold foll
    by_cases he : S.en = -1
    · rw [if_pos he]
      refine foll_tk f (t + 1) _ (by omega) (by omega) (fun e hx => ?_)
      unfold fstep at hx
      dsimp only [FS.ks] at hx
      split at hx
      · rcases List.mem_append.mp hx with hx | hx
        · exact h e hx
        · rw [List.mem_singleton.mp hx]
          dsimp only
          omega
      · exact h e hx
    · rw [if_neg he]
      exact h
theorem fall9_tk {rn : RUN} {g : Int32} {ls : Nat → Int} : ∀ e ∈ (fall9 rn g ls).ks, 0 ≤ e.1 ∧ e.1 ≤ 2000 := foll_tk 2000 1 FS0 (by omega) (by omega) (fun e he => by cases he)
theorem errN_s {nW : Nat} {W : Nat → Int} {ks : KS} {k : Nat} : errN nW W ks (k + 1) = errN nW W ks k + (if k < nW ∧ k < ks.length then ((W k - (ks.getD k (0, 0, 0)).1).natAbs : Int) else 100) := by
  show errN nW W ks k + _ = _
  by_cases h : k < ks.length
  · simp only [List.getD, List.getElem?_eq_getElem h]
    by_cases q : k < nW
    · rw [if_pos q, if_pos ⟨q, h⟩]
      rfl
    · rw [if_neg q, if_neg (fun z => q z.1)]
  · rw [List.getElem?_eq_none (by omega), if_neg (fun z => h z.2)]
set_option maxRecDepth 100000 in
theorem merr_loop {Γ : AMG} {Q : QQ} {d nW : Nat} {W : Nat → Int} {ks : KS} {I : II} {Lg : LJ} {R : RR} {gc : Nat → Nat} (hnW : nW ≤ 10) (hw : I 80 0 0 = zI nW) (hwd : ∀ k, k < nW → I 175 0 k = zI (W k)) (hW : ∀ k, 0 ≤ W k ∧ W k ≤ 65535) (hk : I 55 0 0 = zI ks.length) (hk12 : ks.length ≤ 12) (hK : KAt I 136 137 138 0 ks) (hks : ∀ e ∈ ks, 0 ≤ e.1 ∧ e.1 ≤ 2000)
    (h : Q (some (vI (zI (errT nW W ks)))) I Lg R (GM gc)) :
    ∀ (m k : Nat) (x1 x2 : Int32), k + m = max nW ks.length → x2 = zI k → x1 = zI (errN nW W ks k) → am_J Γ mX12_err Q (d + 1) 0 0 4 [some (vR 12 0), some (vI x1), some (vI x2)] [] I Lg R (GM gc) := by
  have hwt : (I 80 0 0).toInt = nW := by rw [hw, zI_toInt (by omega) (by omega)]
  have hkt : (I 55 0 0).toInt = ks.length := by rw [hk, zI_toInt (by omega) (by omega)]
  intro m
  induction m with
  | zero =>
    intro k x1 x2 hm hx2 hx1
    have h2 : x2.toInt = k := by rw [hx2, zI_toInt (by omega) (by omega)]
    refine am_goN vX12_err 4 ?_
    refine And.intro (fun c => ?_) (fun _ => ?_)
    · rw [h2, hwt] at c
      omega
    refine am_goN vX12_err 4 ?_
    refine And.intro (fun _ => ?_) (fun c => ?_)
    · refine am_goN vX12_err 3 ?_
      rw [hx1, show k = max nW ks.length by omega, errN_eq]
      exact h
    · rw [h2, hkt] at c
      omega
  | succ m ih =>
    intro k x1 x2 hm hx2 hx1
    have h2 : x2.toInt = k := by rw [hx2, zI_toInt (by omega) (by omega)]
    have h2n : x2.toInt.toNat = k := by omega
    have hrg := errN_rng (nW := nW) (ks := ks) hW hks k
    have next : ∀ (y1 y2 : Int32), y1 = zI (errN nW W ks (k + 1)) → y2 = x2 + zI 1 → am_J Γ mX12_err Q (d + 1) 0 0 4 [some (vR 12 0), some (vI y1), some (vI y2)] [] I Lg R (GM gc) := fun y1 y2 e1 e2 => ih (k + 1) y1 y2 (by omega) (by rw [e2, hx2, zI_add]; congr 1) e1
    have k55 : ¬ (k < nW ∧ k < ks.length) → am_J Γ mX12_err Q (d + 1) 0 0 55 [some (vR 12 0), some (vI x1), some (vI x2)] [vI x1] I Lg R (GM gc) := by
      intro hno
      refine am_goN vX12_err 20 ?_
      refine fun y1 ey1 y2 ey2 => ?_
      exact next y1 y2 (by rw [ey1, hx1, zI_add, errN_s, if_neg hno]) ey2
    have k20 : am_J Γ mX12_err Q (d + 1) 0 0 20 [some (vR 12 0), some (vI x1), some (vI x2)] [] I Lg R (GM gc) := by
      refine am_goN vX12_err 5 ?_
      refine And.intro (fun c => ?_) (fun c => ?_)
      · rw [h2, hwt] at c
        exact k55 (by omega)
      rw [h2, hwt] at c
      refine am_goN vX12_err 4 ?_
      refine And.intro (fun c2 => ?_) (fun c2 => ?_)
      · rw [h2, hkt] at c2
        exact k55 (by omega)
      rw [h2, hkt] at c2
      have he : ks[k]? = some ks[k] := List.getElem?_eq_getElem (by omega)
      generalize hge : ks[k] = e at he
      have hek := hks e (List.mem_of_getElem? he)
      have hWk := hW k
      obtain ⟨k1, -, -⟩ := hK k e he
      refine am_goN vX12_err 14 ?_
      refine And.intro ⟨by omega, by omega⟩ ?_
      refine And.intro ⟨by omega, by omega⟩ ?_
      rw [h2n, hwd k (by omega), k1]
      refine s_far ⟨by omega, by omega⟩ ⟨by omega, by omega⟩ ?_
      refine fun y1 ey1 y2 ey2 => ?_
      refine next y1 y2 ?_ ey2
      rw [ey1, hx1, zI_add, errN_s, if_pos ⟨by omega, by omega⟩]
      simp only [List.getD, he, Option.getD_some]
    refine am_goN vX12_err 4 ?_
    refine And.intro (fun c => ?_) (fun c => ?_)
    · exact k20
    rw [h2, hwt] at c
    refine am_goN vX12_err 4 ?_
    refine And.intro (fun c2 => ?_) (fun c2 => ?_)
    · rw [h2, hkt] at c2
      omega
    · exact k20
set_option maxRecDepth 100000 in
theorem s_err {Γ : AMG} {Q : QQ} {d nW : Nat} {W : Nat → Int} {ks : KS} {I : II} {Lg : LJ} {R : RR} {gc : Nat → Nat} (hnW : nW ≤ 10) (hw : I 80 0 0 = zI nW) (hwd : ∀ k, k < nW → I 175 0 k = zI (W k)) (hW : ∀ k, 0 ≤ W k ∧ W k ≤ 65535) (hk : I 55 0 0 = zI ks.length) (hk12 : ks.length ≤ 12) (hK : KAt I 136 137 138 0 ks) (hks : ∀ e ∈ ks, 0 ≤ e.1 ∧ e.1 ≤ 2000)
    (h : Q (some (vI (zI (errT nW W ks)))) I Lg R (GM gc)) : am_Sp Γ (d + 1) 0 0 mX12_err [vR 12 0] I Lg R (GM gc) Q := by
  refine am_runN vX12_err 4 _ rfl rfl rfl rfl ?_
  refine fun x1 ex1 x2 ex2 => ?_
  exact merr_loop hnW hw hwd hW hk hk12 hK hks h (max nW ks.length) 0 x1 x2 (by omega) ex2 ex1

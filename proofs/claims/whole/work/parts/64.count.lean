/-! count. -/
def cntR (rn : Nat → RUN) : Nat → Int
  | 0 => 0
  | n + 1 => cntR rn n + if 0 < (rn n).length then 1 else 0
theorem cntR_rng {rn : Nat → RUN} : ∀ n : Nat, 0 ≤ cntR rn n ∧ cntR rn n ≤ n
  | 0 => by unfold cntR; omega
  | n + 1 => by
    have := cntR_rng (rn := rn) n
    unfold cntR
    split <;> omega
def countA (nb : Nat) (rn : Nat → RUN) (nl nm ne sz : Nat) (w : Int) : Int := if w = 0 then nb else if w = 1 then cntR rn 4 else if w = 2 then nl else if w = 3 then nm else if w = 4 then ne else if w = 5 then sz else -1
set_option maxRecDepth 100000 in
theorem runs_loop {Γ : AMG} {Q : QQ} {d : Nat} {I : II} {Lg : LJ} {R : RR} {gc : Nat → Nat} {rn : Nat → RUN} (hrn : RNSok rn) (hc : CRunsAt I R rn) (h : Q (some (vI (zI (cntR rn 4)))) I Lg R (GM gc)) :
    ∀ (m k : Nat) (x1 x2 : Int32), k + m = 4 → x2 = zI k → x1 = zI (cntR rn k) → am_J Γ mX11_runsThatAre Q (d + 2) 0 0 4 [some (vR 11 0), some (vI x1), some (vI x2)] [] I Lg R (GM gc) := by
  intro m
  induction m with
  | zero =>
    intro k x1 x2 hk h2 h1
    refine am_go vX11_runsThatAre 60 ?_
    refine And.intro (fun c => ?_) (fun c => ?_)
    · rw [h1, show k = 4 by omega]
      exact h
    · rw [h2, zI_toInt (by omega) (by omega), zI_toInt (by omega) (by omega)] at c
      omega
  | succ m ih =>
    intro k x1 x2 hk h2 h1
    have hx2 : x2.toInt = k := by rw [h2, zI_toInt (by omega) (by omega)]
    have hlen := (hrn k (by omega)).1
    have hst : (I 32 k 0).toInt = (rn k).length := by rw [(hc k (by omega)).1, zI_toInt (by omega) (by omega)]
    refine am_go vX11_runsThatAre 60 ?_
    refine And.intro (fun c => ?_) (fun c => ?_)
    · rw [hx2, zI_toInt (by omega) (by omega)] at c
      omega
    refine s_pathOf (fun r hr hx hz => ?_) (fun hz => ?_)
    · have : r = k := by rw [hx, zI_toInt (by omega) (by omega)] at hx2; omega
      subst this
      rw [hst] at hz
      refine ih (r + 1) _ _ (by omega) (by rw [h2, zI_add]; congr 1) ?_
      show _ = zI (cntR rn r + if 0 < (rn r).length then 1 else 0)
      rw [h1, zI_add, if_pos (by omega)]
    · have hz0 : (rn k).length = 0 := by
        rcases hz with hz | ⟨r', hr', hx', hz⟩
        · omega
        · have : r' = k := by rw [hx', zI_toInt (by omega) (by omega)] at hx2; omega
          subst this
          omega
      refine ih (k + 1) _ _ (by omega) (by rw [h2, zI_add]; congr 1) ?_
      show _ = zI (cntR rn k + if 0 < (rn k).length then 1 else 0)
      rw [h1, if_neg (by omega), Int.add_zero]
set_option maxRecDepth 100000 in
theorem s_runsThatAre {Γ : AMG} {Q : QQ} {d : Nat} {I : II} {Lg : LJ} {R : RR} {gc : Nat → Nat} {rn : Nat → RUN} (hrn : RNSok rn) (hc : CRunsAt I R rn) (h : Q (some (vI (zI (cntR rn 4)))) I Lg R (GM gc)) : am_Sp Γ (d + 2) 0 0 mX11_runsThatAre [vR 11 0] I Lg R (GM gc) Q := by
  refine am_run vX11_runsThatAre 60 _ rfl rfl rfl rfl ?_
  exact runs_loop hrn hc h 4 0 _ _ (by omega) rfl rfl
set_option maxRecDepth 100000 in
theorem s_count {Γ : AMG} {Q : QQ} {d : Nat} {x1 : Int32} {I : II} {Lg : LJ} {R : RR} {gc : Nat → Nat} {rn : Nat → RUN} {nb nl nm ne sz : Nat} (hrn : RNSok rn) (hc : CRunsAt I R rn) (hb : I 46 0 0 = zI nb) (hl : I 23 0 0 = zI nl) (hm : I 16 0 0 = zI nm) (he : I 33 9 0 = zI ne) (hs : I 39 0 0 = zI sz)
    (h : Q (some (vI (zI (countA nb rn nl nm ne sz x1.toInt)))) I Lg R (GM gc)) : am_Sp Γ (d + 3) 0 0 mX11_count [vR 11 0, vI x1] I Lg R (GM gc) Q := by
  unfold countA at h
  refine am_run vX11_count 60 _ rfl rfl rfl rfl ?_
  refine And.intro (fun c => ?_) ⟨fun c => ?_, fun c => ?_, fun c => ?_, fun c => ?_, fun c => ?_, fun c => ?_, trivial⟩
  · rw [if_neg (by omega), if_neg (by omega), if_neg (by omega), if_neg (by omega), if_neg (by omega), if_neg (by omega)] at h
    exact h
  · rw [if_pos (by omega), ← hb] at h
    exact h
  · rw [if_neg (by omega), if_pos (by omega)] at h
    refine s_runsThatAre hrn hc ?_
    exact h
  · rw [if_neg (by omega), if_neg (by omega), if_pos (by omega), ← hl] at h
    exact h
  · rw [if_neg (by omega), if_neg (by omega), if_neg (by omega), if_pos (by omega), ← hm] at h
    exact h
  · rw [if_neg (by omega), if_neg (by omega), if_neg (by omega), if_neg (by omega), if_pos (by omega), ← he] at h
    exact h
  · rw [if_neg (by omega), if_neg (by omega), if_neg (by omega), if_neg (by omega), if_neg (by omega), if_pos (by omega), ← hs] at h
    exact h
set_option maxRecDepth 100000 in
theorem mcount_loop {Γ : AMG} {Q : QQ} {d : Nat} {x1 : Int32} {I : II} {Lg : LJ} {R : RR} {gc : Nat → Nat} {rn : Nat → RUN} {nb nl nm ne sz : Nat} (hrn : RNSok rn) (hp : ∀ r, r < 4 → I 131 0 r = zI (rn r).length) (hb : I 49 0 0 = zI nb) (hl : I 59 0 0 = zI nl) (hm : I 60 0 0 = zI nm) (he : I 72 0 0 = zI ne) (hs : I 48 0 0 = zI sz)
    (h : Q (some (vI (zI (countA nb rn nl nm ne sz x1.toInt)))) I Lg R (GM gc)) :
    ∀ (m k : Nat) (x2 x3 : Int32), k + m = 4 → x3 = zI k → x2 = zI (cntR rn k) → am_J Γ mX12_count Q d 0 0 9 [some (vR 12 0), some (vI x1), some (vI x2), some (vI x3)] [] I Lg R (GM gc) := by
  unfold countA at h
  intro m
  induction m with
  | zero =>
    intro k x2 x3 hk h3 h2
    refine am_go vX12_count 60 ?_
    refine And.intro (fun c => ?_) (fun c => ?_)
    · refine And.intro (fun c => ?_) ⟨fun c => ?_, fun c => ?_, fun c => ?_, fun c => ?_, fun c => ?_, fun c => ?_, trivial⟩
      · rw [if_neg (by omega), if_neg (by omega), if_neg (by omega), if_neg (by omega), if_neg (by omega), if_neg (by omega)] at h
        exact h
      · rw [if_pos (by omega), ← hb] at h
        exact h
      · rw [if_neg (by omega), if_pos (by omega)] at h
        rw [h2, show k = 4 by omega]
        exact h
      · rw [if_neg (by omega), if_neg (by omega), if_pos (by omega), ← hl] at h
        exact h
      · rw [if_neg (by omega), if_neg (by omega), if_neg (by omega), if_pos (by omega), ← hm] at h
        exact h
      · rw [if_neg (by omega), if_neg (by omega), if_neg (by omega), if_neg (by omega), if_pos (by omega), ← he] at h
        exact h
      · rw [if_neg (by omega), if_neg (by omega), if_neg (by omega), if_neg (by omega), if_neg (by omega), if_pos (by omega), ← hs] at h
        exact h
    · rw [h3, zI_toInt (by omega) (by omega), zI_toInt (by omega) (by omega)] at c
      omega
  | succ m ih =>
    intro k x2 x3 hk h3 h2
    have hx3 : x3.toInt = k := by rw [h3, zI_toInt (by omega) (by omega)]
    have hlen := (hrn k (by omega)).1
    have hst : (I 131 0 x3.toInt.toNat).toInt = (rn k).length := by rw [hx3, Int.toNat_natCast, hp k (by omega), zI_toInt (by omega) (by omega)]
    refine am_go vX12_count 60 ?_
    refine And.intro (fun c => ?_) (fun c => ?_)
    · rw [hx3, zI_toInt (by omega) (by omega)] at c
      omega
    refine And.intro ⟨by omega, by omega⟩ ?_
    refine And.intro (fun c2 => ?_) (fun c2 => ?_)
    · rw [hst] at c2
      refine ih (k + 1) _ _ (by omega) (by rw [h3, zI_add]; congr 1) ?_
      show _ = zI (cntR rn k + if 0 < (rn k).length then 1 else 0)
      rw [h2, if_neg (by omega), Int.add_zero]
    · rw [hst] at c2
      refine ih (k + 1) _ _ (by omega) (by rw [h3, zI_add]; congr 1) ?_
      show _ = zI (cntR rn k + if 0 < (rn k).length then 1 else 0)
      rw [h2, zI_add, if_pos (by omega)]
set_option maxRecDepth 100000 in
theorem s_mcount {Γ : AMG} {Q : QQ} {d : Nat} {x1 : Int32} {I : II} {Lg : LJ} {R : RR} {gc : Nat → Nat} {rn : Nat → RUN} {nb nl nm ne sz : Nat} (hrn : RNSok rn) (hp : ∀ r, r < 4 → I 131 0 r = zI (rn r).length) (hb : I 49 0 0 = zI nb) (hl : I 59 0 0 = zI nl) (hm : I 60 0 0 = zI nm) (he : I 72 0 0 = zI ne) (hs : I 48 0 0 = zI sz)
    (h : Q (some (vI (zI (countA nb rn nl nm ne sz x1.toInt)))) (up3 I 47 0 0 (zI 0)) Lg R (GM gc)) : am_Sp Γ d 0 0 mX12_count [vR 12 0, vI x1] I Lg R (GM gc) Q := by
  refine am_run vX12_count 60 _ rfl rfl rfl rfl ?_
  have f : FrI (V0 [47]) I (up3 I 47 0 0 (zI 0)) := FrI.rf.up rfl
  exact mcount_loop hrn (fun r hr => by rw [f _ _ rfl]; exact hp r hr) (by rw [f _ _ rfl]; exact hb) (by rw [f _ _ rfl]; exact hl) (by rw [f _ _ rfl]; exact hm) (by rw [f _ _ rfl]; exact he) (by rw [f _ _ rfl]; exact hs) h 4 0 _ _ (by omega) rfl rfl

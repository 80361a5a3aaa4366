/-! fall. -/
def RNSok (rn : Nat → RUN) : Prop := ∀ r, r < 4 → RUNok (rn r)
def CRunsAt (I : II) (R : RR) (rn : Nat → RUN) : Prop := ∀ r, r < 4 → PathAt I R r (rn r)
def MRunsAt (I : II) (rn : Nat → RUN) : Prop := (∀ r, r < 4 → I 131 0 r = zI (rn r).length ∧ ∀ g, MRunG I r g (rn r)) ∧ ∀ v, I 135 0 v = zI 0
def fAns (S : FS) (w : Int) : Int := if w = 0 then S.en else if w = 1 then S.ks.length else if w = 2 then S.jm else S.fa
set_option maxRecDepth 100000 in
theorem s_answer {Γ : AMG} {Q : QQ} {d f : Nat} {x : Int32} {w : Int} {I : II} {Lg : LJ} {R : RR} {gc : Nat → Nat} {S : FS} (hc : CFS I f S.fa S.en S.jm S.ks) (hx : x.toInt = w)
    (h : Q (some (vI (zI (fAns S w)))) I Lg R (GM gc)) : am_Sp Γ d 0 0 mX4_answer [vR 4 f, vI x] I Lg R (GM gc) Q := by
  obtain ⟨c1, c2, c3, c4, -⟩ := hc
  unfold fAns at h
  refine am_run vX4_answer 60 _ rfl rfl rfl rfl ?_
  refine And.intro (fun c => ?_) ⟨fun c => ?_, fun c => ?_, fun c => ?_, trivial⟩
  all_goals rw [hx] at c
  · rw [if_neg (by omega), if_neg (by omega), if_neg (by omega), ← c1] at h
    exact h
  · rw [if_pos (by omega), ← c2] at h
    exact h
  · rw [if_neg (by omega), if_pos (by omega), ← c4] at h
    exact h
  · rw [if_neg (by omega), if_neg (by omega), if_pos (by omega), ← c3] at h
    exact h
set_option maxRecDepth 100000 in
theorem s_fall {Γ : AMG} {Q : QQ} {d : Nat} {x1 g x3 : Int32} {I : II} {Lg : LJ} {R : RR} {gc : Nat → Nat} {rn : Nat → RUN} (hrn : RNSok rn) (hc : CRunsAt I R rn)
    (hn : (¬ ∃ r : Nat, r < 4 ∧ x1 = zI r ∧ 0 < (rn r).length ∧ 0 ≤ x3.toInt ∧ x3.toInt ≤ 3) → Q (some (vI (zI (-2)))) I Lg R (GM gc))
    (hy : ∀ r : Nat, r < 4 → x1 = zI r → 0 < (rn r).length → 0 ≤ x3.toInt → x3.toInt ≤ 3 → ∀ I' : II, FrI (VF 0 0) I I' → CFS I' 0 (fall9 (rn r) g nols).fa (fall9 (rn r) g nols).en (fall9 (rn r) g nols).jm (fall9 (rn r) g nols).ks → Q (some (vI (zI (fAns (fall9 (rn r) g nols) x3.toInt)))) I' Lg R (GM gc)) :
    am_Sp Γ (d + 3) 0 0 mX11_fall [vR 11 0, vI x1, vI g, vI x3] I Lg R (GM gc) Q := by
  refine am_run vX11_fall 60 _ rfl rfl rfl rfl ?_
  refine s_pathOf (fun r hr hx hz => ?_) (fun hz => ?_)
  · have hlen := (hrn r hr).1
    have hst : (I 32 r 0).toInt = (rn r).length := by rw [(hc r hr).1, zI_toInt (by omega) (by omega)]
    rw [hst] at hz
    refine s_within (fun j1 j2 => ?_) (fun j1 => ?_)
    · rw [zI_toInt (by omega) (by omega)] at j1 j2
      refine And.intro (fun c => ?_) (fun c => ?_)
      · refine s_cfollow (f := 0) (hrn r hr) (by omega) (hc r hr) (fun I' f' c' => ?_)
        refine s_answer c' rfl ?_
        exact hy r hr hx (by omega) j1 j2 I' f' c'
      · rw [zI_toInt (by omega) (by omega)] at c
        omega
    · rw [zI_toInt (by omega) (by omega), zI_toInt (by omega) (by omega)] at j1
      refine And.intro (fun c => ?_) (fun c => ?_)
      · rw [zI_toInt (by omega) (by omega)] at c
        omega
      · refine hn (fun q => ?_)
        obtain ⟨_, _, _, _, q1, q2⟩ := q
        omega
  · refine hn (fun q => ?_)
    obtain ⟨r, hr, hx, hl, -⟩ := q
    have hlen := (hrn r hr).1
    have hst : (I 32 r 0).toInt = (rn r).length := by rw [(hc r hr).1, zI_toInt (by omega) (by omega)]
    rcases hz with hz | ⟨r', hr', hx', hz⟩
    · rw [hx, zI_toInt (by omega) (by omega)] at hz
      omega
    · have : (r : Int) = r' := zI_inj (by omega) (by omega) (by omega) (by omega) (hx ▸ hx')
      have : r = r' := by omega
      subst this
      omega
abbrev mtv : List Nat := [139, 140, 141]
set_option maxRecDepth 100000 in
theorem mfall_copy {Γ : AMG} {Q : QQ} {d : Nat} {x1 g x3 : Int32} {I : II} {Lg : LJ} {R : RR} {gc : Nat → Nat} {S : FS} {st : Int} (hk : S.ks.length ≤ 12) (hs : MFS I st S.fa S.en (S.pl, S.pt, S.sp) S.jm S.ks) (h30 : 0 ≤ x3.toInt) (h33 : x3.toInt ≤ 3)
    (h : ∀ I' : II, FrI (V0 mtv) I I' → KAt I' 139 140 141 0 S.ks → Q (some (vI (zI (fAns S x3.toInt)))) I' Lg R (GM gc)) :
    ∀ (m k : Nat) (x4 : Int32) (I1 : II), k + m = S.ks.length → x4 = zI k → FrI (V0 mtv) I I1 → KAt I1 139 140 141 0 (S.ks.take k) →
      am_J Γ mX12_fall Q d 0 0 42 [some (vR 12 0), some (vI x1), some (vI g), some (vI x3), some (vI x4)] [] I1 Lg R (GM gc) := by
  obtain ⟨⟨-, -, -, -, s5⟩, s6, s7, s8, s9⟩ := hs
  intro m
  induction m with
  | zero =>
    intro k x4 I1 hkm hx4 hf hK
    have hkt : (I1 55 0 0).toInt = S.ks.length := by rw [hf _ _ rfl, s8, zI_toInt (by omega) (by omega)]
    rw [List.take_of_length_le (by omega)] at hK
    have h' := h I1 hf hK
    unfold fAns at h'
    refine am_goN vX12_fall 60 ?_
    refine And.intro (fun c => ?_) (fun c => ?_)
    · refine And.intro (fun c2 => ?_) (fun c2 => ?_)
      · refine And.intro (fun c3 => ?_) (fun c3 => ?_)
        · rw [zI_toInt (by omega) (by omega)] at c3
          refine And.intro (fun c4 => ?_) (fun c4 => ?_)
          · rw [zI_toInt (by omega) (by omega)] at c4
            rw [if_neg (by omega), if_neg (by omega), if_neg (by omega), ← s6, ← hf _ _ rfl] at h'
            exact h'
          · rw [zI_toInt (by omega) (by omega)] at c4
            rw [if_neg (by omega), if_neg (by omega), if_pos (by omega), ← s5, ← hf _ _ rfl] at h'
            exact h'
        · rw [zI_toInt (by omega) (by omega)] at c3
          rw [if_neg (by omega), if_pos (by omega), ← s8, ← hf _ _ rfl] at h'
          exact h'
      · rw [if_pos (by omega), ← s7, ← hf _ _ rfl] at h'
        exact h'
    · rw [hx4, hkt, zI_toInt (by omega) (by omega)] at c
      omega
  | succ m ih =>
    intro k x4 I1 hkm hx4 hf hK
    have hkt : (I1 55 0 0).toInt = S.ks.length := by rw [hf _ _ rfl, s8, zI_toInt (by omega) (by omega)]
    have hx4t : x4.toInt = k := by rw [hx4, zI_toInt (by omega) (by omega)]
    have hx4n : x4.toInt.toNat = k := by rw [hx4t]; omega
    have he : S.ks[k]? = some S.ks[k] := List.getElem?_eq_getElem (by omega)
    generalize S.ks[k] = e at he
    obtain ⟨a1, a2, a3⟩ := s9 k e he
    refine am_goN vX12_fall 80 ?_
    refine And.intro (fun c => ?_) (fun c => ?_)
    · rw [hx4t, hkt] at c
      omega
    refine And.intro ⟨by omega, by omega⟩ ?_
    refine And.intro ⟨by omega, by omega⟩ ?_
    refine fun y1 ey1 I2 e2 => ?_
    refine And.intro ⟨by omega, by omega⟩ ?_
    refine And.intro ⟨by omega, by omega⟩ ?_
    refine fun y2 ey2 I3 e3 => ?_
    refine And.intro ⟨by omega, by omega⟩ ?_
    refine And.intro ⟨by omega, by omega⟩ ?_
    refine fun y3 ey3 I4 e4 x4' ex4 => ?_
    rw [hx4n] at ey1 ey2 ey3 e2 e3 e4
    have f2 : FrI (V0 mtv) I I2 := by rw [e2]; exact hf.up rfl
    have f3 : FrI (V0 mtv) I I3 := by rw [e3]; exact f2.up rfl
    rw [hf _ _ rfl, a1] at ey1
    rw [f2 _ _ rfl, a2] at ey2
    rw [f3 _ _ rfl, a3] at ey3
    have hlen : (S.ks.take k).length = k := by rw [List.length_take]; omega
    refine ih (k + 1) x4' I4 (by omega) (by rw [ex4, hx4, zI_add]; congr 1) (by rw [e4]; exact f3.up rfl) ?_
    rw [take_snoc he]
    refine hK.app (fun j => ?_) (fun j => ?_) (fun j => ?_)
    · rw [hlen, e4, up3_v _ (by decide), e3, up3_v _ (by decide), e2, up3_a, ey1]; simp
    · rw [hlen, e4, up3_v _ (by decide), e3, up3_a, ey2, e2, up3_v _ (by decide)]; simp
    · rw [hlen, e4, up3_a, ey3, e3, up3_v _ (by decide), e2, up3_v _ (by decide)]; simp
theorem foll_ok {rn : RUN} {g : Int32} {ls : Nat → Int} (hrn : RUNok rn) (hls : LSok ls) : ∀ (f : Nat) (t : Int) (S : FS), 1 ≤ t → FSok rn S → FSok rn (foll rn g ls f t S)
  | 0, t, S, ht, h => h
  | f + 1, t, S, ht, h => by
    unfold foll
    by_cases he : S.en = -1
    · rw [if_pos he]
      exact foll_ok hrn hls f (t + 1) _ (by omega) (fstep_ok hrn hls ht he h)
    · rw [if_neg he]
      exact h
theorem FS0_ok {rn : RUN} (hrn : RUNok rn) (hn : 0 < rn.length) : FSok rn FS0 := by
  refine ⟨fun _ => ⟨⟨⟨by decide, by show (0 : Int) < _; omega, by decide, by decide, by decide, by decide⟩, fun e he => ?_⟩, by decide⟩, by decide, by decide, by decide⟩
  show (0 : Int) < _
  have := (hrn.2 _ e he).1.1
  omega

/-! The reference's night: bumps. -/
def MPrs (I : II) (P : List (NB × NB)) : Prop := ∀ (j : Nat) (a : NB × NB), P[j]? = some a → MBall I j a.2 ∧ MWas I j a.1
theorem MPrs.fr {I I' : II} {P : List (NB × NB)} {l : List Nat} (h : MPrs I P) (hf : FrI (V0 l) I I') (hq : mbl.all (fun v => !l.elem v) = true) : MPrs I' P := by
  have hq2 : ∀ v ∈ mbl, V0 l v 0 = false := V0_out hq
  intro j a ha
  obtain ⟨⟨h1, h2, h3, h4⟩, h5, h6⟩ := h j a ha
  exact ⟨⟨by rw [hf _ _ (hq2 _ (by decide))]; exact h1, by rw [hf _ _ (hq2 _ (by decide))]; exact h2, by rw [hf _ _ (hq2 _ (by decide))]; exact h3, by rw [hf _ _ (hq2 _ (by decide))]; exact h4⟩, by rw [hf _ _ (hq2 _ (by decide))]; exact h5, by rw [hf _ _ (hq2 _ (by decide))]; exact h6⟩
abbrev mbv : List Nat := [74, 78, 79, 158, 159, 160, 77]
theorem mbump_in {Γ : AMG} {Q : QQ} {d i : Nat} {x1 x2 : Int32} {I : II} {Lg : LJ} {R : RR} {gc : Nat → Nat} {P : List (NB × NB)} {rn : Nat → RUN} {tk : Int} {a : NB × NB} (hl : P.length ≤ 24) (hlg : I 75 0 0 = zI P.length) (hx1 : x1 = zI tk) (hP : MPrs I P) (hr : ∀ a ∈ P, PRg rn a) (hx2 : x2 = zI i) (ha : P[i]? = some a) :
    ∀ (m n : Nat) (x3 : Int32) (l4 : Option AV) (S : NST) (I1 : II), n + m = P.length → x3 = zI n → FrI (V0 mbv) I I1 → MNAt I1 S →
      (∀ (I' : II) (x3 : Int32) (l4 : Option AV), FrI (V0 mbv) I I' → MNAt I' (bmpI tk a (P.drop n) S) → am_J Γ mX12_rollAll Q (d + 3) 0 0 438 [some (vR 12 0), some (vI x1), some (vI x2), some (vI x3), l4] [] I' Lg R (GM gc)) →
      am_J Γ mX12_rollAll Q (d + 3) 0 0 205 [some (vR 12 0), some (vI x1), some (vI x2), some (vI x3), l4] [] I1 Lg R (GM gc) := by
  have hi := (List.getElem?_eq_some_iff.mp ha).1
  have hra : PRg rn a := hr a (List.mem_of_getElem? ha)
  intro m
  induction m with
  | zero =>
    intro n x3 l4 S I1 hm hx hf hS h
    have hlt : (I1 75 0 0).toInt = P.length := by rw [hf _ _ rfl, hlg, zI_toInt (by omega) (by omega)]
    rw [List.drop_of_length_le (by omega)] at h
    refine am_goN vX12_rollAll 4 ?_
    refine And.intro (fun c => ?_) (fun c => ?_)
    · exact h I1 x3 l4 hf hS
    · rw [hlt, hx, zI_toInt (by omega) (by omega)] at c
      omega
  | succ m ih =>
    intro n x3 l4 S I1 hm hx hf hS h
    have hlt : (I1 75 0 0).toInt = P.length := by rw [hf _ _ rfl, hlg, zI_toInt (by omega) (by omega)]
    have hn : n < P.length := by omega
    have he : P[n]? = some P[n] := List.getElem?_eq_getElem hn
    have hdr : P.drop n = P[n] :: P.drop (n + 1) := List.drop_eq_getElem_cons hn
    rw [hdr] at h
    have hrb := hr P[n] (List.getElem_mem hn)
    generalize P[n] = b at he hdr h hrb
    unfold bmpI at h
    have hP1 : MPrs I1 P := hP.fr hf (by decide)
    obtain ⟨⟨a1, a2, a3, a4⟩, a5, a6⟩ := hP1 i a ha
    obtain ⟨⟨b1, b2, b3, b4⟩, b5, b6⟩ := hP1 n b he
    obtain ⟨r1, r2, r3, r4, r5, r6, r7, r8, r9⟩ := id hra
    obtain ⟨q1, q2, q3, q4, q5, q6, q7, q8, q9⟩ := id hrb
    have hxt : x3.toInt = n := by rw [hx, zI_toInt (by omega) (by omega)]
    have hxn : x3.toInt.toNat = n := by rw [hxt]; omega
    have hyt : x2.toInt = i := by rw [hx2, zI_toInt (by omega) (by omega)]
    have hyn : x2.toInt.toNat = i := by rw [hyt]; omega
    have ta1 : (I1 161 0 i).toInt = a.1.1 := by rw [a1, zI_toInt (by omega) (by omega)]; exact r1
    have tb1 : (I1 161 0 n).toInt = b.1.1 := by rw [b1, zI_toInt (by omega) (by omega)]; exact q1
    have ta2 : (I1 162 0 i).toInt = a.2.2.1 := by rw [a2, zI_toInt (by omega) (by omega)]
    have tb2 : (I1 162 0 n).toInt = b.2.2.1 := by rw [b2, zI_toInt (by omega) (by omega)]
    have ta3 : (I1 163 0 i).toInt = a.2.2.2.1 := by rw [a3, zI_toInt (by omega) (by omega)]
    have tb3 : (I1 163 0 n).toInt = b.2.2.2.1 := by rw [b3, zI_toInt (by omega) (by omega)]
    have ta5 : (I1 165 0 i).toInt = a.1.2.1 := by rw [a5, zI_toInt (by omega) (by omega)]
    have tb5 : (I1 165 0 n).toInt = b.1.2.1 := by rw [b5, zI_toInt (by omega) (by omega)]
    have ta6 : (I1 166 0 i).toInt = a.1.2.2.1 := by rw [a6, zI_toInt (by omega) (by omega)]
    have tb6 : (I1 166 0 n).toInt = b.1.2.2.1 := by rw [b6, zI_toInt (by omega) (by omega)]
    have k205 : ∀ (I2 : II) (l4 : Option AV) (y : Int32), FrI (V0 mbv) I I2 → MNAt I2 (bmpN tk a b S) → y = x3 + zI 1 → am_J Γ mX12_rollAll Q (d + 3) 0 0 205 [some (vR 12 0), some (vI x1), some (vI x2), some (vI y), l4] [] I2 Lg R (GM gc) := by
      intro I2 l4 y f2 s2 ey
      exact ih (n + 1) y l4 (bmpN tk a b S) I2 (by omega) (by rw [ey, hx, zI_add]; congr 1) f2 s2 h
    have kno : bmpC a b = false → ∀ (y : Int32), y = x3 + zI 1 → am_J Γ mX12_rollAll Q (d + 3) 0 0 205 [some (vR 12 0), some (vI x1), some (vI x2), some (vI y), l4] [] I1 Lg R (GM gc) := by
      intro q y ey
      refine k205 I1 l4 y hf ?_ ey
      unfold bmpN
      rw [if_neg (by rw [q]; decide)]
      exact hS
    have kno432 : bmpC a b = false → am_J Γ mX12_rollAll Q (d + 3) 0 0 432 [some (vR 12 0), some (vI x1), some (vI x2), some (vI x3), l4] [] I1 Lg R (GM gc) := by
      intro q
      refine am_goN vX12_rollAll 2 ?_
      exact kno q
    have kyes : bmpC a b = true → am_J Γ mX12_rollAll Q (d + 3) 0 0 351 [some (vR 12 0), some (vI x1), some (vI x2), some (vI x3), l4] [] I1 Lg R (GM gc) := by
      intro q
      refine am_goN vX12_rollAll (15) ?_
      refine fun y ey I2 e2 => ?_
      have f2 : FrI (V0 [77]) I1 I2 := by rw [e2]; exact FrI.rf.up rfl
      have S2 := hS.bump e2 ey
      have ea4 : I2 164 0 i = zI a.2.2.2.2 := by rw [f2 _ _ rfl]; exact a4
      have eb4 : I2 164 0 n = zI b.2.2.2.2 := by rw [f2 _ _ rfl]; exact b4
      have ea1 : I2 161 0 i = zI a.1.1 := by rw [f2 _ _ rfl, a1, r1]
      have sa : (I2 164 0 i).toInt = a.2.2.2.2 := by rw [ea4, zI_toInt (by omega) (by omega)]
      have sb : (I2 164 0 n).toInt = b.2.2.2.2 := by rw [eb4, zI_toInt (by omega) (by omega)]
      have hv0 : 0 ≤ bmpV a b ∧ bmpV a b ≤ 1000 := by unfold bmpV; omega
      have f2' : FrI (V0 mbv) I I2 := hf.tr (f2.mono (fun v i h => V0_sub (by decide) h))
      have k410 : ∀ x4 : Int32, x4 = zI (bmpV a b) → am_J Γ mX12_rollAll Q (d + 3) 0 0 410 [some (vR 12 0), some (vI x1), some (vI x2), some (vI x3), some (vI x4)] [] I2 Lg R (GM gc) := by
        intro x4 ex4
        have hx4t : x4.toInt = bmpV a b := by rw [ex4, zI_toInt (by omega) (by omega)]
        refine am_goN vX12_rollAll 60 ?_
        refine And.intro (fun c => ?_) (fun c => ?_)
        · refine fun y3 ey3 => ?_
          refine k205 I2 _ y3 f2' ?_ ey3
          unfold bmpN
          rw [if_pos q, if_neg (by omega)]
          exact S2
        · refine And.intro ⟨by omega, by omega⟩ ?_
          rw [hyn]
          refine s_mhear (a := tk) (b := 900 + a.1.1) (s := bmpV a b) S2 hx1 (by rw [ea1, zI_add]) ex4 (fun I3 f3 s3 => ?_)
          refine fun y3 ey3 => ?_
          refine k205 I3 _ y3 (f2'.tr (f3.mono (fun v i h => V0_sub (by decide) h))) ?_ ey3
          unfold bmpN
          rw [if_pos q, if_pos (by omega)]
          exact s3
      refine And.intro ⟨by omega, by omega⟩ ?_
      refine And.intro ⟨by omega, by omega⟩ ?_
      rw [hyn, hxn]
      refine And.intro (fun c => ?_) (fun c => ?_)
      · rw [sa, sb] at c
        refine am_goN vX12_rollAll (12) ?_
        refine And.intro ⟨by omega, by omega⟩ ?_
        refine And.intro ⟨by omega, by omega⟩ ?_
        rw [hyn, hxn]
        refine And.intro (by rw [zI_toInt (by omega) (by omega)]; omega) ?_
        refine fun x4 ex4 => k410 x4 ?_
        rw [ex4, ea4, eb4, zI_sub, zI_divN (by omega) (by omega) (by omega) (by omega)]
        unfold bmpV
        congr 2
        omega
      · rw [sa, sb] at c
        refine am_goN vX12_rollAll (10 + 3) ?_
        refine And.intro ⟨by omega, by omega⟩ ?_
        refine And.intro ⟨by omega, by omega⟩ ?_
        rw [hyn, hxn]
        refine And.intro (by rw [zI_toInt (by omega) (by omega)]; omega) ?_
        refine fun x4 ex4 => k410 x4 ?_
        rw [ex4, ea4, eb4, zI_sub, zI_divN (by omega) (by omega) (by omega) (by omega)]
        unfold bmpV
        congr 2
        omega
    have k318 : (a.1.1 = b.1.1 ∧ a.1.2.1 ≠ 255 ∧ a.1.2.1 = b.1.2.1 ∧ a.2.2.1 = a.1.2.1 ∧ b.2.2.1 = a.1.2.1) → ¬ (a.1.2.2.1 < b.1.2.2.1 ∧ b.2.2.2.1 < a.2.2.2.1) → am_J Γ mX12_rollAll Q (d + 3) 0 0 318 [some (vR 12 0), some (vI x1), some (vI x2), some (vI x3), l4] [] I1 Lg R (GM gc) := by
      intro hh hnot
      refine am_goN vX12_rollAll (9) ?_
      refine And.intro ⟨by omega, by omega⟩ ?_
      refine And.intro ⟨by omega, by omega⟩ ?_
      rw [hyn, hxn, ]
      refine And.intro (fun c => ?_) (fun c => ?_)
      · rw [ta6, tb6] at c
        exact kno432 (by unfold bmpC; exact decide_eq_false (by omega))
      · rw [ta6, tb6] at c
        refine am_goN vX12_rollAll (9) ?_
        refine And.intro ⟨by omega, by omega⟩ ?_
        refine And.intro ⟨by omega, by omega⟩ ?_
        rw [hyn, hxn]
        refine And.intro (fun c2 => ?_) (fun c2 => ?_)
        · rw [ta3, tb3] at c2
          exact kyes (by unfold bmpC; exact decide_eq_true (by omega))
        · rw [ta3, tb3] at c2
          refine am_goN vX12_rollAll 1 ?_
          exact kno432 (by unfold bmpC; exact decide_eq_false (by omega))
    refine am_goN vX12_rollAll (46) ?_
    refine And.intro (fun c => ?_) (fun c => ?_)
    · rw [hlt, hxt] at c
      omega
    refine And.intro ⟨by omega, by omega⟩ ?_
    refine And.intro ⟨by omega, by omega⟩ ?_
    rw [hyn, hxn]
    refine And.intro (fun c1 => ?_) (fun c1 => ?_)
    · rw [ta1, tb1] at c1
      exact kno (by unfold bmpC; exact decide_eq_false (by omega))
    rw [ta1, tb1] at c1
    refine And.intro ⟨by omega, by omega⟩ ?_
    rw [hyn]
    refine And.intro (fun c2 => ?_) (fun c2 => ?_)
    · rw [ta5, zI_toInt (by omega) (by omega)] at c2
      exact kno (by unfold bmpC; exact decide_eq_false (by omega))
    rw [ta5, zI_toInt (by omega) (by omega)] at c2
    refine And.intro ⟨by omega, by omega⟩ ?_
    refine And.intro ⟨by omega, by omega⟩ ?_
    rw [hyn, hxn]
    refine And.intro (fun c3 => ?_) (fun c3 => ?_)
    · rw [ta5, tb5] at c3
      exact kno (by unfold bmpC; exact decide_eq_false (by omega))
    rw [ta5, tb5] at c3
    refine And.intro ⟨by omega, by omega⟩ ?_
    refine And.intro ⟨by omega, by omega⟩ ?_
    rw [hyn]
    refine And.intro (fun c4 => ?_) (fun c4 => ?_)
    · rw [ta2, ta5] at c4
      exact kno (by unfold bmpC; exact decide_eq_false (by omega))
    rw [ta2, ta5] at c4
    refine And.intro ⟨by omega, by omega⟩ ?_
    refine And.intro ⟨by omega, by omega⟩ ?_
    rw [hyn, hxn]
    refine And.intro (fun c5 => ?_) (fun c5 => ?_)
    · rw [tb2, ta5] at c5
      have hh : a.1.1 = b.1.1 ∧ a.1.2.1 ≠ 255 ∧ a.1.2.1 = b.1.2.1 ∧ a.2.2.1 = a.1.2.1 ∧ b.2.2.1 = a.1.2.1 := ⟨c1, c2, c3, c4, c5⟩
      refine am_goN vX12_rollAll (9) ?_
      refine And.intro ⟨by omega, by omega⟩ ?_
      refine And.intro ⟨by omega, by omega⟩ ?_
      rw [hyn, hxn]
      refine And.intro (fun c6 => ?_) (fun c6 => ?_)
      · rw [ta6, tb6] at c6
        exact k318 hh (by omega)
      · rw [ta6, tb6] at c6
        refine am_goN vX12_rollAll (9) ?_
        refine And.intro ⟨by omega, by omega⟩ ?_
        refine And.intro ⟨by omega, by omega⟩ ?_
        rw [hyn, hxn]
        refine And.intro (fun c7 => ?_) (fun c7 => ?_)
        · rw [ta3, tb3] at c7
          exact kyes (by unfold bmpC; exact decide_eq_true (by omega))
        · rw [ta3, tb3] at c7
          exact k318 hh (by omega)
    · rw [tb2, ta5] at c5
      refine am_goN vX12_rollAll 1 ?_
      exact kno432 (by unfold bmpC; exact decide_eq_false (by omega))
theorem mbump_out {Γ : AMG} {Q : QQ} {d : Nat} {x1 : Int32} {I : II} {Lg : LJ} {R : RR} {gc : Nat → Nat} {P : List (NB × NB)} {rn : Nat → RUN} {tk : Int} (hl : P.length ≤ 24) (hlg : I 75 0 0 = zI P.length) (hx1 : x1 = zI tk) (hP : MPrs I P) (hr : ∀ a ∈ P, PRg rn a) :
    ∀ (m n : Nat) (x2 : Int32) (l3 l4 : Option AV) (S : NST) (I1 : II), n + m = P.length → x2 = zI n → FrI (V0 mbv) I I1 → MNAt I1 S →
      (∀ I' : II, FrI (V0 mbv) I I' → MNAt I' (bmpL tk (P.drop n) S) → Q none I' Lg R (GM gc)) →
      am_J Γ mX12_rollAll Q (d + 3) 0 0 193 [some (vR 12 0), some (vI x1), some (vI x2), l3, l4] [] I1 Lg R (GM gc) := by
  intro m
  induction m with
  | zero =>
    intro n x2 l3 l4 S I1 hm hx hf hS h
    have hlt : (I1 75 0 0).toInt = P.length := by rw [hf _ _ rfl, hlg, zI_toInt (by omega) (by omega)]
    rw [List.drop_of_length_le (by omega)] at h
    refine am_goN vX12_rollAll 60 ?_
    refine And.intro (fun c => ?_) (fun c => ?_)
    · exact h I1 hf hS
    · rw [hlt, hx, zI_toInt (by omega) (by omega)] at c
      omega
  | succ m ih =>
    intro n x2 l3 l4 S I1 hm hx hf hS h
    have hlt : (I1 75 0 0).toInt = P.length := by rw [hf _ _ rfl, hlg, zI_toInt (by omega) (by omega)]
    have hn : n < P.length := by omega
    have he : P[n]? = some P[n] := List.getElem?_eq_getElem hn
    have hdr : P.drop n = P[n] :: P.drop (n + 1) := List.drop_eq_getElem_cons hn
    rw [hdr] at h
    generalize P[n] = a at he hdr h
    unfold bmpL at h
    have hxt : x2.toInt = n := by rw [hx, zI_toInt (by omega) (by omega)]
    refine am_J.er [true, true, true, false, true] ?_
    refine am_goN vX12_rollAll 60 ?_
    refine And.intro (fun c => ?_) (fun c => ?_)
    · rw [hlt, hxt] at c
      omega
    refine fun x3 ex3 => ?_
    refine mbump_in hl hlg hx1 hP hr hx he (P.length - (n + 1)) (n + 1) x3 _ S I1 (by omega) (by rw [ex3, hx, zI_add]; congr 1) hf hS (fun I2 x3 l4 f2 s2 => ?_)
    refine am_goN vX12_rollAll 2 ?_
    refine fun y ey => ?_
    exact ih (n + 1) y _ l4 _ I2 (by omega) (by rw [ey, hx, zI_add]; congr 1) f2 s2 h
/-- the reference's night between its ticks -/
def MNS (I : II) (B : List NB) (gs : Nat → Int32) (S : NST) : Prop := MNAt I S ∧ I 75 0 0 = zI B.length ∧ (∀ (j : Nat) (b : NB), B[j]? = some b → MBall I j b) ∧ ∀ r, r < 4 → I 167 0 r = gs r
set_option maxRecDepth 100000 in
theorem s_mrollAll {Γ : AMG} {Q : QQ} {d : Nat} {x1 : Int32} {I : II} {Lg : LJ} {R : RR} {gc : Nat → Nat} {rn : Nat → RUN} {s : NS} {tk : Int} (hrn : RNSok rn) (hP : MRunsAt I rn) (hB : ∀ b ∈ s.1, NBok rn b) (hl : s.1.length ≤ 24) (hN : MNS I s.1 s.2.1 s.2.2) (hx1 : x1 = zI tk)
    (h : ∀ I' : II, FrI (V0 mnl) I I' → MNS I' (tkN rn tk s).1 (tkN rn tk s).2.1 (tkN rn tk s).2.2 → Q none I' Lg R (GM gc)) : am_Sp Γ (d + 3) 0 0 mX12_rollAll [vR 12 0, vI x1] I Lg R (GM gc) Q := by
  obtain ⟨n1, n2, n3, n4⟩ := hN
  refine am_runN vX12_rollAll 2 _ rfl rfl rfl rfl ?_
  refine fun x2 ex2 => ?_
  refine mroll_loop hrn hP hB hl n2 n4 hx1 s.1.length 0 x2 _ _ s.2.2 I (by omega) ex2 FrI.rf n1 (fun j b hj => by rw [if_neg (by omega)]; exact n3 j b hj) (fun I2 x3 l3 l4 f2 s2 M2 ex3 => ?_)
  have hpl : (prN rn s.2.1 s.1).length = s.1.length := by unfold prN; rw [List.length_map]
  have hpg : ∀ (j : Nat) (a : NB × NB), (prN rn s.2.1 s.1)[j]? = some a → ∃ b, s.1[j]? = some b ∧ a = (b, stpB rn s.2.1 b) := by
    intro j a ha
    unfold prN at ha
    rw [List.getElem?_map] at ha
    cases hb : s.1[j]? with
    | none => rw [hb] at ha; cases ha
    | some b => rw [hb] at ha; cases ha; exact ⟨b, rfl, rfl⟩
  refine mbump_out (rn := rn) (P := prN rn s.2.1 s.1) (by omega) (by rw [hpl, f2 _ _ rfl]; exact n2) hx1 (fun j a ha => ?_) (fun a ha => ?_) (prN rn s.2.1 s.1).length 0 x3 l3 l4 _ I2 (by omega) ex3 FrI.rf s2 (fun I3 f3 s3 => ?_)
  · obtain ⟨b, hb, rfl⟩ := hpg j a ha
    have hj := (List.getElem?_eq_some_iff.mp hb).1
    have := M2 j b hb
    rw [if_pos hj] at this
    exact this
  · obtain ⟨j, hj⟩ := List.mem_iff_getElem?.mp ha
    obtain ⟨b, hb, rfl⟩ := hpg j a hj
    exact prN_rg hrn (hB b (List.mem_of_getElem? hb))
  · refine h I3 (f2.tr (f3.mono (fun v i h => V0_sub (by decide) h))) ⟨s3, ?_, fun j b hj => ?_, fun r hr => ?_⟩
    · rw [f3 _ _ rfl, f2 _ _ rfl, n2]
      unfold tkN
      rw [List.length_map]
    · unfold tkN at hj
      rw [List.getElem?_map] at hj
      cases hb : s.1[j]? with
      | none => rw [hb] at hj; cases hj
      | some b0 =>
        rw [hb] at hj
        cases hj
        have := M2 j b0 hb
        rw [if_pos (List.getElem?_eq_some_iff.mp hb).1] at this
        obtain ⟨z1, z2, z3, z4⟩ := this.1
        exact ⟨by rw [f3 _ _ rfl]; exact z1, by rw [f3 _ _ rfl]; exact z2, by rw [f3 _ _ rfl]; exact z3, by rw [f3 _ _ rfl]; exact z4⟩
    · rw [f3 _ _ rfl, f2 _ _ rfl]
      exact n4 r hr

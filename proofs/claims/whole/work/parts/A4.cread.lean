/-! The class reads: small things. -/
def kwOf (q : Nat) : List Int := match q with
  | 0 => kAt
  | 1 => kEnd
  | 2 => kEvery
  | 6 => kPlay
  | 7 => kStorm
  | 8 => kTimes
  | 9 => kUse
  | 10 => kWith
  | _ => []
/-- what is shown of isWord (its texts lie among the old things) -/
def SWok (Γ : AMG) : Prop := ∀ (Q : QQ) (d q : Nat) (I : II) (Lg : LJ) (R : RR) (gc : Nat → Nat) (sz : Nat) (bs : Nat → Int) (t : TK), kwOf q ≠ [] → BSsok sz bs → TapeAt I sz bs → TOK sz bs t → CTk I t → (isW bs t (kwOf q) → Q (some (vI (zI 1))) I Lg R (GM gc)) → (¬ isW bs t (kwOf q) → Q (some (vI (zI 0))) I Lg R (GM gc)) → am_Sp Γ (d + 5) 0 0 mX10_isWord [vR 10 0, vR am_cStr q] I Lg R (GM gc) Q
/-- the texts of the reader -/
def KWok (Γ : AMG) : Prop := ∀ U, Γ.KX U → vk_R "StormLoft$Reader" 63 "at" (Γ.SA 0) U ∧ vk_R "StormLoft$Reader" 73 "times" (Γ.SA 8) U ∧ vk_R "StormLoft$Reader" 78 "play" (Γ.SA 6) U ∧ vk_R "StormLoft$Reader" 83 "storm" (Γ.SA 7) U ∧ vk_R "StormLoft$Reader" 88 "end" (Γ.SA 1) U ∧ vk_R "StormLoft$Reader" 124 "use" (Γ.SA 9) U ∧ vk_R "StormLoft$Reader" 133 "with" (Γ.SA 10) U ∧ vk_R "StormLoft$Reader" 149 "every" (Γ.SA 2) U
set_option maxRecDepth 100000 in
theorem s_fail {Γ : AMG} {Q : QQ} {d : Nat} {x1 x2 : Int32} {I : II} {Lg : LJ} {R : RR} {gc : Nat → Nat} (hf : I 37 0 0 = zI 0) (h : ∀ I' : II, FrI (V0 [37, 38]) I I' → I' 37 0 0 = x1 → I' 38 0 0 = x2 → Q none I' Lg R (GM gc)) :
    am_Sp Γ d 0 0 mX9_fail [vR 9 0, vI x1, vI x2] I Lg R (GM gc) Q := by
  refine am_runN vX9_fail 40 _ rfl rfl rfl rfl ?_
  refine And.intro (fun c => ?_) (fun c => ?_)
  · rw [hf] at c
    exact absurd (zI_toInt (a := 0) (by omega) (by omega)) c
  · refine fun y1 ey1 I1 e1 y2 ey2 I2 e2 => ?_
    exact h I2 (by rw [e2, e1]; exact (FrI.rf.up rfl).up rfl) (by rw [e2, up3_v _ (by decide), e1, up3_s, ey1]) (by rw [e2, up3_s, ey2])
theorem s_failF {Γ : AMG} {Q : QQ} {d : Nat} {x1 x2 : Int32} {I : II} {Lg : LJ} {R : RR} {gc : Nat → Nat} (hf : (I 37 0 0).toInt ≠ 0) (h : Q none I Lg R (GM gc)) : am_Sp Γ d 0 0 mX9_fail [vR 9 0, vI x1, vI x2] I Lg R (GM gc) Q := by
  refine am_runN vX9_fail 40 _ rfl rfl rfl rfl ?_
  exact And.intro (fun _ => h) (fun c => absurd c hf)
def CFl (I : II) (f : FLT) : Prop := I 37 0 0 = zI f.1 ∧ I 38 0 0 = zI f.2
abbrev cfv : List Nat := [37, 38]
abbrev crv : List Nat := 37 :: 38 :: ctv
theorem ctv_crv {I I' : II} (h : FrI (V0 ctv) I I') : FrI (V0 crv) I I' := h.mono (fun v i q => V0_sub (l2 := crv) (by decide) q)
theorem cfv_crv {I I' : II} (h : FrI (V0 cfv) I I') : FrI (V0 crv) I I' := h.mono (fun v i q => V0_sub (l2 := crv) (by decide) q)
/-- a fault is kept: its place is the token's -/
theorem s_failT {Γ : AMG} {Q : QQ} {d : Nat} {x1 x2 : Int32} {k : Int} {I : II} {Lg : LJ} {R : RR} {gc : Nat → Nat} {t : TK} (hf : I 37 0 0 = zI 0) (h1 : x1 = zI k) (h2 : x2 = zI t.2.1) (h : ∀ I' : II, FrI (V0 cfv) I I' → CFl I' (k, t.2.1) → Q none I' Lg R (GM gc)) : am_Sp Γ d 0 0 mX9_fail [vR 9 0, vI x1, vI x2] I Lg R (GM gc) Q :=
  s_fail hf (fun I' f a b => h I' f ⟨a.trans h1, b.trans h2⟩)
theorem eNum_1 {t : TK} {a b : Int} {f : FLT} (h : eNum t a b = some f) : f.2 = t.2.1 ∧ ((t.1 ≠ 2 ∧ f.1 = 1) ∨ (t.1 = 2 ∧ (t.2.2.2 < a ∨ b < t.2.2.2) ∧ f.1 = 2)) := by
  unfold eNum at h
  split at h
  · next q => cases h; exact ⟨rfl, Or.inl ⟨q, rfl⟩⟩
  · next q =>
    split at h
    · next q2 => cases h; exact ⟨rfl, Or.inr ⟨Decidable.byContradiction q, q2, rfl⟩⟩
    · cases h
theorem eWord_1 {bs : Nat → Int} {t : TK} {w : List Int} {f : FLT} (h : eWord bs t w = some f) : f = (1, t.2.1) ∧ ¬ isW bs t w := by
  unfold eWord at h
  split at h
  · cases h
  · next q => cases h; exact ⟨rfl, q⟩
theorem eSemi_1 {t : TK} {f : FLT} (h : eSemi t = some f) : f = (1, t.2.1) ∧ t.1 ≠ 3 := by
  unfold eSemi at h
  split at h
  · cases h
  · next q => cases h; exact ⟨rfl, q⟩
set_option maxRecDepth 100000 in
theorem s_readNumber {Γ : AMG} {Q : QQ} {d p : Nat} {x1 x2 : Int32} {a b : Int} {I : II} {Lg : LJ} {R : RR} {gc : Nat → Nat} {sz : Nat} {bs : Nat → Int} (hb : BSsok sz bs) (ht : TapeAt I sz bs) (ha : I 41 0 0 = zI p) (hp : p ≤ sz) (hf : I 37 0 0 = zI 0) (hx1 : x1 = zI a) (hx2 : x2 = zI b) (hra : -100000 ≤ a ∧ a ≤ 100000) (hrb : -100000 ≤ b ∧ b ≤ 100000)
    (hy : eNum (tokA sz bs p) a b = none → ∀ I' : II, FrI (V0 ctv) I I' → CTk I' (tokA sz bs p) → Q (some (vI (zI (tokA sz bs p).val))) I' Lg R (GM gc))
    (hn : ∀ f : FLT, eNum (tokA sz bs p) a b = some f → ∀ (x : Int32) (I' : II), FrI (V0 crv) I I' → CFl I' f → Q (some (vI x)) I' Lg R (GM gc)) :
    am_Sp Γ (d + 3) 0 0 mX9_readNumber [vR 9 0, vR 10 0, vI x1, vI x2] I Lg R (GM gc) Q := by
  have hsz := hb.1
  have hTOK : TOK sz bs (tokA sz bs p) := ⟨p, hp, rfl⟩
  have hok := hTOK.ok hb
  refine am_runN vX9_readNumber 3 _ rfl rfl rfl rfl ?_
  refine And.intro (fun _ => ?_) (fun c => ?_)
  · refine am_goN vX9_readNumber 6 ?_
    refine s_nextToken hb ht ha (by omega) (fun I1 f1 c1 => ?_)
    generalize tokA sz bs p = t at *
    have hf1 : I1 37 0 0 = zI 0 := by rw [f1 _ _ rfl]; exact hf
    have hkt : (I1 42 0 0).toInt = t.1 := by rw [c1.1, zI_toInt (by omega) (by omega)]
    have k58 : ∀ (f : FLT) (I2 : II), eNum t a b = some f → FrI (V0 cfv) I1 I2 → CFl I2 f → am_J Γ mX9_readNumber Q (d + 3) 0 0 58 [some (vR 9 0), some (vR 10 0), some (vI x1), some (vI x2)] [] I2 Lg R (GM gc) := by
      intro f I2 hef f2 m2
      refine am_goN vX9_readNumber 10 ?_
      exact hn f hef _ I2 ((ctv_crv f1).tr (cfv_crv f2)) m2
    refine And.intro (fun c => ?_) (fun c => ?_)
    · rw [hkt, zI_toInt (by omega) (by omega)] at c
      have t2 : t.1 = 2 := by omega
      have hv := c1.2.2.2.2 t2
      have hvt : (I1 45 0 0).toInt = t.2.2.2 := by rw [hv, zI_toInt (by omega) (by omega)]
      have hxa : x1.toInt = a := by rw [hx1, zI_toInt (by omega) (by omega)]
      have hxb : x2.toInt = b := by rw [hx2, zI_toInt (by omega) (by omega)]
      have k49 : (t.2.2.2 < a ∨ b < t.2.2.2) → am_J Γ mX9_readNumber Q (d + 3) 0 0 49 [some (vR 9 0), some (vR 10 0), some (vI x1), some (vI x2)] [] I1 Lg R (GM gc) := by
        intro hbad
        refine am_goN vX9_readNumber 5 ?_
        refine s_failT (t := t) (k := 2) hf1 rfl c1.2.1 (fun I2 f2 m2 => ?_)
        exact k58 (2, t.2.1) I2 (by unfold eNum; rw [if_neg (fun z => z t2), if_pos hbad]) f2 m2
      refine am_goN vX9_readNumber 4 ?_
      refine And.intro (fun c2 => ?_) (fun c2 => ?_)
      · rw [hvt, hxa] at c2
        exact k49 (Or.inl c2)
      rw [hvt, hxa] at c2
      refine am_goN vX9_readNumber 4 ?_
      refine And.intro (fun c3 => ?_) (fun c3 => ?_)
      · rw [hvt, hxb] at c3
        refine am_goN vX9_readNumber 10 ?_
        have := hy (by unfold eNum; rw [if_neg (fun z => z t2), if_neg (by omega)]) I1 f1 c1
        rw [show zI t.val = I1 45 0 0 from hv.symm] at this
        exact this
      · rw [hvt, hxb] at c3
        exact k49 (Or.inr c3)
    · rw [hkt, zI_toInt (by omega) (by omega)] at c
      have t2 : t.1 ≠ 2 := by omega
      refine am_goN vX9_readNumber (6) ?_
      refine s_failT (t := t) (k := 1) hf1 rfl c1.2.1 (fun I2 f2 m2 => ?_)
      exact k58 (1, t.2.1) I2 (by unfold eNum; rw [if_pos t2]) f2 m2
  · rw [hf] at c
    exact absurd (zI_toInt (a := 0) (by omega) (by omega)) c
theorem s_readNumberF {Γ : AMG} {Q : QQ} {d : Nat} {x1 x2 : Int32} {I : II} {Lg : LJ} {R : RR} {gc : Nat → Nat} (hf : (I 37 0 0).toInt ≠ 0) (h : Q (some (vI (zI (-1)))) I Lg R (GM gc)) : am_Sp Γ d 0 0 mX9_readNumber [vR 9 0, vR 10 0, vI x1, vI x2] I Lg R (GM gc) Q := by
  refine am_runN vX9_readNumber 10 _ rfl rfl rfl rfl ?_
  exact And.intro (fun c => absurd c hf) (fun _ => h)
set_option maxRecDepth 100000 in
theorem s_readSemi {Γ : AMG} {Q : QQ} {d p : Nat} {I : II} {Lg : LJ} {R : RR} {gc : Nat → Nat} {sz : Nat} {bs : Nat → Int} (hb : BSsok sz bs) (ht : TapeAt I sz bs) (ha : I 41 0 0 = zI p) (hp : p ≤ sz) (hf : I 37 0 0 = zI 0)
    (hy : eSemi (tokA sz bs p) = none → ∀ I' : II, FrI (V0 ctv) I I' → CTk I' (tokA sz bs p) → Q none I' Lg R (GM gc))
    (hn : ∀ f : FLT, eSemi (tokA sz bs p) = some f → ∀ (I' : II), FrI (V0 crv) I I' → CFl I' f → Q none I' Lg R (GM gc)) :
    am_Sp Γ (d + 3) 0 0 mX9_readSemicolon [vR 9 0, vR 10 0] I Lg R (GM gc) Q := by
  have hsz := hb.1
  have hTOK : TOK sz bs (tokA sz bs p) := ⟨p, hp, rfl⟩
  have hok := hTOK.ok hb
  refine am_runN vX9_readSemicolon 40 _ rfl rfl rfl rfl ?_
  refine And.intro (fun c => ?_) (fun _ => ?_)
  · rw [hf] at c
    exact absurd (zI_toInt (a := 0) (by omega) (by omega)) c
  · refine s_nextToken hb ht ha (by omega) (fun I1 f1 c1 => ?_)
    generalize tokA sz bs p = t at *
    have hf1 : I1 37 0 0 = zI 0 := by rw [f1 _ _ rfl]; exact hf
    have hkt : (I1 42 0 0).toInt = t.1 := by rw [c1.1, zI_toInt (by omega) (by omega)]
    refine And.intro (fun c => ?_) (fun c => ?_)
    · rw [hkt, zI_toInt (by omega) (by omega)] at c
      exact hy (by unfold eSemi; rw [if_pos (by omega)]) I1 f1 c1
    · rw [hkt, zI_toInt (by omega) (by omega)] at c
      refine s_failT (t := t) (k := 1) hf1 rfl c1.2.1 (fun I2 f2 m2 => ?_)
      exact hn (1, t.2.1) (by unfold eSemi; rw [if_neg (by omega)]) I2 ((ctv_crv f1).tr (cfv_crv f2)) m2
theorem s_readSemiF {Γ : AMG} {Q : QQ} {d : Nat} {I : II} {Lg : LJ} {R : RR} {gc : Nat → Nat} (hf : (I 37 0 0).toInt ≠ 0) (h : Q none I Lg R (GM gc)) : am_Sp Γ d 0 0 mX9_readSemicolon [vR 9 0, vR 10 0] I Lg R (GM gc) Q := by
  refine am_runN vX9_readSemicolon 10 _ rfl rfl rfl rfl ?_
  exact And.intro (fun _ => h) (fun c => absurd c hf)
set_option maxRecDepth 100000 in
theorem s_readWord {Γ : AMG} {Q : QQ} {d p q : Nat} {I : II} {Lg : LJ} {R : RR} {gc : Nat → Nat} {sz : Nat} {bs : Nat → Int} (hW : SWok Γ) (hq : kwOf q ≠ []) (hb : BSsok sz bs) (ht : TapeAt I sz bs) (ha : I 41 0 0 = zI p) (hp : p ≤ sz) (hf : I 37 0 0 = zI 0)
    (hy : eWord bs (tokA sz bs p) (kwOf q) = none → ∀ I' : II, FrI (V0 ctv) I I' → CTk I' (tokA sz bs p) → Q none I' Lg R (GM gc))
    (hn : ∀ f : FLT, eWord bs (tokA sz bs p) (kwOf q) = some f → ∀ (I' : II), FrI (V0 crv) I I' → CFl I' f → Q none I' Lg R (GM gc)) :
    am_Sp Γ (d + 6) 0 0 mX9_readWord [vR 9 0, vR 10 0, vR am_cStr q] I Lg R (GM gc) Q := by
  have hsz := hb.1
  have hTOK : TOK sz bs (tokA sz bs p) := ⟨p, hp, rfl⟩
  refine am_runN vX9_readWord 40 _ rfl rfl rfl rfl ?_
  refine And.intro (fun c => ?_) (fun _ => ?_)
  · rw [hf] at c
    exact absurd (zI_toInt (a := 0) (by omega) (by omega)) c
  · refine s_nextToken hb ht ha (by omega) (fun I1 f1 c1 => ?_)
    generalize tokA sz bs p = t at *
    have hf1 : I1 37 0 0 = zI 0 := by rw [f1 _ _ rfl]; exact hf
    refine hW _ d q I1 Lg R gc sz bs t hq hb (ht.fr f1 rfl rfl) hTOK c1 (fun hw => ?_) (fun hw => ?_)
    · refine And.intro (fun _ => ?_) (fun c => ?_)
      · exact hy (by unfold eWord; rw [if_pos hw]) I1 f1 c1
      · rw [zI_toInt (by omega) (by omega)] at c
        omega
    · refine And.intro (fun c => ?_) (fun _ => ?_)
      · rw [zI_toInt (by omega) (by omega)] at c
        omega
      · refine s_failT (t := t) (k := 1) hf1 rfl c1.2.1 (fun I2 f2 m2 => ?_)
        exact hn (1, t.2.1) (by unfold eWord; rw [if_neg hw]) I2 ((ctv_crv f1).tr (cfv_crv f2)) m2
theorem s_readWordF {Γ : AMG} {Q : QQ} {d q : Nat} {I : II} {Lg : LJ} {R : RR} {gc : Nat → Nat} (hf : (I 37 0 0).toInt ≠ 0) (h : Q none I Lg R (GM gc)) : am_Sp Γ d 0 0 mX9_readWord [vR 9 0, vR 10 0, vR am_cStr q] I Lg R (GM gc) Q := by
  refine am_runN vX9_readWord 10 _ rfl rfl rfl rfl ?_
  exact And.intro (fun _ => h) (fun c => absurd c hf)

/-! The class's tokens. -/
theorem alnE_out {sz : Nat} {bs : Nat → Int} {p : Nat} (h : sz ≤ p) : ∀ f, alnE sz bs f p = p
  | 0 => rfl
  | f + 1 => by unfold alnE; rw [if_neg (by omega)]
theorem alnE_ge {sz : Nat} {bs : Nat → Int} : ∀ (f p g : Nat), sz ≤ p + f → f ≤ g → alnE sz bs g p = alnE sz bs f p
  | 0, p, g, h, _ => by rw [alnE_out (by omega)]; rfl
  | f + 1, p, 0, h, hg => absurd hg (by omega)
  | f + 1, p, g + 1, h, hg => by
    unfold alnE
    split
    · exact alnE_ge f (p + 1) g (by omega) (by omega)
    · rfl
theorem skp_out {lim : Nat} {bs : Nat → Int} {p : Nat} (h : lim ≤ p) : ∀ f, skp bs lim f p = p
  | 0 => rfl
  | f + 1 => by unfold skp; rw [if_neg (by omega)]
theorem skp_ge {lim : Nat} {bs : Nat → Int} : ∀ (f p g : Nat), lim ≤ p + f → f ≤ g → skp bs lim g p = skp bs lim f p
  | 0, p, g, h, _ => by rw [skp_out (by omega)]; rfl
  | f + 1, p, 0, h, hg => absurd hg (by omega)
  | f + 1, p, g + 1, h, hg => by
    unfold skp
    split
    · exact skp_ge f (p + 1) g (by omega) (by omega)
    · rfl
theorem rst_e {bs : Nat → Int} {q : Nat} (h : ∀ k, 0 ≤ bs k ∧ bs k ≤ 255) (n : Nat) : 0 ≤ (rst bs q n).2.2 ∧ (rst bs q n).2.2 ≤ 9999 := ⟨(rst_val h n).1, (rst_val h n).2.1⟩
set_option maxRecDepth 100000 in
theorem s_rld {Γ : AMG} {Q : QQ} {d q : Nat} {I : II} {Lg : LJ} {R : RR} {gc : Nat → Nat} {sz : Nat} {bs : Nat → Int} (hb : BSsok sz bs) (ht : TapeAt I sz bs) (hq : q < sz) (ha : I 41 0 0 = zI q)
    (h : ∀ I' : II, FrI (V0 [41, 45, 42]) I I' → I' 41 0 0 = zI (tkE sz bs q) → I' 42 0 0 = zI (rkind (rst bs q (tkE sz bs q - q))) → I' 45 0 0 = zI (rst bs q (tkE sz bs q - q)).2.2 → Q none I' Lg R (GM gc)) :
    am_Sp Γ (d + 1) 0 0 mX10_readLettersAndDigits [vR 10 0] I Lg R (GM gc) Q := by
  have hsz := hb.1
  refine am_runN vX10_readLettersAndDigits 7 _ rfl rfl rfl rfl ?_
  refine fun x1 ex1 x2 ex2 y ey I1 e1 => ?_
  have f1 : FrI (V0 [41, 45]) I I1 := by rw [e1]; exact FrI.rf.up rfl
  refine rld_loop (q := q) hb ht hq (sz - q) 0 x1 x2 I1 (by omega) ex1 ex2 f1 (by rw [e1, up3_v _ (by decide)]; exact ha) (by rw [e1, up3_s, ey]; rfl) (fun I2 n x1 x2 hn g1 g2 f2 a2 v2 => ?_)
  have hE : tkE sz bs q = q + n := by
    unfold tkE
    rw [← hn]
    show alnE sz bs 640 q = alnE sz bs (sz - q + 1) q
    rw [alnE_ge (sz - q) q 640 (by omega) (by omega), alnE_ge (sz - q) q (sz - q + 1) (by omega) (by omega)]
  rw [hE, show q + n - q = n by omega] at h
  have hl := rst_le (bs := bs) (q := q) n
  have hqn : q + n ≤ sz ∨ n = 0 := by
    have := (alnE_le (sz := sz) (bs := bs) (sz - q + 1) q).2
    rw [show alnE sz bs (sz - q + 1) q = q + n from hn] at this
    omega
  have t1 : x1.toInt = (rst bs q n).1 := by rw [g1, zI_toInt (by omega) (by omega)]
  have t2 : x2.toInt = (rst bs q n).2.1 := by rw [g2, zI_toInt (by omega) (by omega)]
  have fin : ∀ (y : Int32) (I3 : II), y = zI (rkind (rst bs q n)) → I3 = up3 I2 42 0 0 y → Q none I3 Lg R (GM gc) := by
    intro y I3 hy e3
    refine h I3 (by rw [e3]; exact (f2.mono (fun v i h => V0_sub (by decide) h)).up rfl) ?_ (by rw [e3, up3_s, hy]) (by rw [e3, up3_v _ (by decide)]; exact v2)
    rw [e3, up3_v _ (by decide)]
    exact a2
  unfold rkind at fin
  have l2 : ((rst bs q n).2.1 ≠ 0 ∨ (rst bs q n).1 < 1 ∨ 8 < (rst bs q n).1) → am_J Γ mX10_readLettersAndDigits Q (d + 1) 0 0 139 [some (vR 10 0), some (vI x1), some (vI x2)] [] I2 Lg R (GM gc) := by
    intro hno
    rw [if_neg (by omega)] at fin
    refine am_goN vX10_readLettersAndDigits 60 ?_
    refine And.intro (fun c => ?_) (fun c => ?_)
    · rw [if_neg (by omega)] at fin
      exact fun y ey I3 e3 => fin y I3 ey e3
    refine And.intro (fun c2 => ?_) (fun c2 => ?_)
    · rw [t2, zI_toInt (by omega) (by omega)] at c2
      rw [if_neg (by omega)] at fin
      exact fun y ey I3 e3 => fin y I3 ey e3
    rw [t2, zI_toInt (by omega) (by omega)] at c2
    refine And.intro (fun c3 => ?_) (fun c3 => ?_)
    · rw [t2, zI_toInt (by omega) (by omega)] at c3
      rw [if_neg (by omega)] at fin
      exact fun y ey I3 e3 => fin y I3 ey e3
    · rw [t2, zI_toInt (by omega) (by omega)] at c3
      rw [if_pos (by omega)] at fin
      exact fun y ey I3 e3 => fin y I3 ey e3
  refine am_goN vX10_readLettersAndDigits 2 ?_
  refine And.intro (fun c => ?_) (fun c => ?_)
  · exact l2 (by omega)
  refine am_goN vX10_readLettersAndDigits 3 ?_
  refine And.intro (fun c2 => ?_) (fun c2 => ?_)
  · rw [t1, zI_toInt (by omega) (by omega)] at c2
    exact l2 (by omega)
  rw [t1, zI_toInt (by omega) (by omega)] at c2
  refine am_goN vX10_readLettersAndDigits 3 ?_
  refine And.intro (fun c3 => ?_) (fun c3 => ?_)
  · rw [t1, zI_toInt (by omega) (by omega)] at c3
    exact l2 (by omega)
  · rw [t1, zI_toInt (by omega) (by omega)] at c3
    rw [if_pos (by omega)] at fin
    refine am_goN vX10_readLettersAndDigits 60 ?_
    exact fun y ey I3 e3 => fin y I3 ey e3
/-- the class stands behind that token -/
def CTk (I : II) (t : TK) : Prop := I 42 0 0 = zI t.1 ∧ I 43 0 0 = zI t.2.1 ∧ I 44 0 0 = zI t.2.2.1 ∧ (t.1 ≠ 0 → I 41 0 0 = zI t.2.2.1) ∧ (t.1 = 2 → I 45 0 0 = zI t.2.2.2)
theorem CTk.fr {I I' : II} {P : Nat → Nat → Bool} {t : TK} (h : CTk I t) (hf : FrI P I I') (hP : ∀ v ∈ ctv, P v 0 = false) : CTk I' t := by
  obtain ⟨h1, h2, h3, h4, h5⟩ := h
  exact ⟨by rw [hf _ _ (hP _ (by decide))]; exact h1, by rw [hf _ _ (hP _ (by decide))]; exact h2, by rw [hf _ _ (hP _ (by decide))]; exact h3, fun q => by rw [hf _ _ (hP _ (by decide))]; exact h4 q, fun q => by rw [hf _ _ (hP _ (by decide))]; exact h5 q⟩
theorem next_loop {Γ : AMG} {Q : QQ} {d : Nat} {x1 : Int32} {I : II} {Lg : LJ} {R : RR} {gc : Nat → Nat} {sz lim : Nat} {bs : Nat → Int} (hb : BSsok sz bs) (ht : TapeAt I sz bs) (hx1 : x1 = zI lim) (hlim : lim ≤ sz) :
    ∀ (m p : Nat) (I1 : II), lim ≤ p + m → p ≤ 640 → FrI (V0 [41]) I I1 → I1 41 0 0 = zI p →
      (∀ I' : II, FrI (V0 [41]) I I' → I' 41 0 0 = zI (skp bs lim m p) → skp bs lim m p ≤ 640 → am_J Γ mX10_nextToken Q (d + 2) 0 0 46 [some (vR 10 0), some (vI x1)] [] I' Lg R (GM gc)) →
      am_J Γ mX10_nextToken Q (d + 2) 0 0 11 [some (vR 10 0), some (vI x1)] [] I1 Lg R (GM gc) := by
  have hsz := hb.1
  have hx1t : x1.toInt = lim := by rw [hx1, zI_toInt (by omega) (by omega)]
  intro m
  induction m with
  | zero =>
    intro p I1 hm hp hf ha h
    have hat : (I1 41 0 0).toInt = p := by rw [ha, zI_toInt (by omega) (by omega)]
    refine am_goN vX10_nextToken 4 ?_
    refine And.intro (fun c => ?_) (fun c => ?_)
    · exact h I1 hf ha hp
    · rw [hat, hx1t] at c
      omega
  | succ m ih =>
    intro p I1 hm hp hf ha h
    have hat : (I1 41 0 0).toInt = p := by rw [ha, zI_toInt (by omega) (by omega)]
    unfold skp at h
    refine am_goN vX10_nextToken 4 ?_
    refine And.intro (fun c => ?_) (fun c => ?_)
    · rw [hat, hx1t] at c
      rw [if_neg (by omega)] at h
      exact h I1 hf ha hp
    rw [hat, hx1t] at c
    have hbp := hb.2 p
    refine am_goN vX10_nextToken 6 ?_
    refine s_byteAtE (k := p) hb (ht.fr hf rfl rfl) ha (by omega) ?_
    refine s_isBlank (fun c1 => ?_) (fun c1 c2 => ?_)
    · rw [zI_toInt (by omega) (by omega)] at c1
      refine And.intro (fun c => ?_) (fun _ => ?_)
      · rw [zI_toInt (by omega) (by omega)] at c
        omega
      rw [if_pos (by omega)] at h
      refine am_goN vX10_nextToken 8 ?_
      refine fun y ey I2 e2 => ?_
      exact ih (p + 1) I2 (by omega) (by omega) (by rw [e2]; exact hf.up rfl) (by rw [e2, up3_s, ey, ha, zI_add]; congr 1) h
    · rw [zI_toInt (by omega) (by omega)] at c1 c2
      refine And.intro (fun _ => ?_) (fun c => ?_)
      · rw [if_neg (by omega)] at h
        exact h I1 hf ha hp
      · rw [zI_toInt (by omega) (by omega)] at c
        omega
set_option maxRecDepth 100000 in
theorem s_nextToken {Γ : AMG} {Q : QQ} {d p : Nat} {I : II} {Lg : LJ} {R : RR} {gc : Nat → Nat} {sz : Nat} {bs : Nat → Int} (hb : BSsok sz bs) (ht : TapeAt I sz bs) (ha : I 41 0 0 = zI p) (hp : p ≤ 640)
    (h : ∀ I' : II, FrI (V0 ctv) I I' → CTk I' (tokA sz bs p) → Q none I' Lg R (GM gc)) : am_Sp Γ (d + 2) 0 0 mX10_nextToken [vR 10 0] I Lg R (GM gc) Q := by
  have hsz := hb.1
  refine am_runN vX10_nextToken 5 _ rfl rfl rfl rfl ?_
  refine fun x1 ex1 => ?_
  have hx1 : x1 = zI (min sz 600 : Nat) := by
    rw [ex1, ht.1, am_min_z (by omega) (by omega) (by omega) (by omega)]
    congr 1
    omega
  have hx1t : x1.toInt = (min sz 600 : Nat) := by rw [hx1, zI_toInt (by omega) (by omega)]
  refine next_loop (lim := min sz 600) hb ht hx1 (by omega) 640 p I (by omega) hp FrI.rf ha (fun I1 f1 a1 hq => ?_)
  have hQ : skp bs (min sz 600) 640 p = tkQ sz bs p := rfl
  rw [hQ] at a1 hq
  unfold tokA at h
  generalize tkQ sz bs p = q at *
  have hat : (I1 41 0 0).toInt = q := by rw [a1, zI_toInt (by omega) (by omega)]
  have f1' : FrI (V0 ctv) I I1 := f1.mono (fun v i h => V0_sub (by decide) h)
  refine am_goN vX10_nextToken 4 ?_
  refine And.intro (fun c => ?_) (fun c => ?_)
  · rw [hat, hx1t] at c
    rw [if_neg (by omega)] at h
    have hbq := hb.2 q
    have t1 : TapeAt I1 sz bs := ht.fr f1 rfl rfl
    refine am_goN vX10_nextToken 10 ?_
    refine fun y2 ey2 I2 e2 => ?_
    have f2 : FrI (V0 [43]) I1 I2 := by rw [e2]; exact FrI.rf.up rfl
    have a2 : I2 41 0 0 = zI q := by rw [f2 _ _ rfl]; exact a1
    have s2 : I2 43 0 0 = zI q := by rw [e2, up3_s, ey2]; exact a1
    have t2 : TapeAt I2 sz bs := t1.fr f2 rfl rfl
    refine s_byteAtE (k := q) hb t2 a2 (by omega) ?_
    refine And.intro (fun c2 => ?_) (fun c2 => ?_)
    · rw [zI_toInt (by omega) (by omega), zI_toInt (by omega) (by omega)] at c2
      rw [if_neg c2] at h
      refine am_goN vX10_nextToken 60 ?_
      refine s_rld hb t2 (by omega) a2 (fun I3 f3 a3 k3 v3 => ?_)
      refine fun y4 ey4 I4 e4 => ?_
      have f4 : FrI (V0 [44]) I3 I4 := by rw [e4]; exact FrI.rf.up rfl
      refine h I4 ((f1'.tr (f2.mono (fun v i h => V0_sub (by decide) h))).tr ((f3.mono (fun v i h => V0_sub (by decide) h)).tr (f4.mono (fun v i h => V0_sub (by decide) h)))) ⟨?_, ?_, ?_, fun _ => ?_, fun _ => ?_⟩
      · rw [f4 _ _ rfl]; exact k3
      · rw [f4 _ _ rfl, f3 _ _ rfl]; exact s2
      · rw [e4, up3_s, ey4]; exact a3
      · rw [f4 _ _ rfl]; exact a3
      · rw [f4 _ _ rfl]; exact v3
    · rw [zI_toInt (by omega) (by omega), zI_toInt (by omega) (by omega)] at c2
      rw [if_pos (by omega)] at h
      refine am_goN vX10_nextToken 60 ?_
      refine fun y3 ey3 I3 e3 y4 ey4 I4 e4 y5 ey5 I5 e5 => ?_
      have a4 : I4 41 0 0 = zI (q + 1 : Nat) := by rw [e4, up3_s, ey4, e3, up3_v _ (by decide), a2, zI_add]; congr 1
      have f5 : FrI (V0 ctv) I2 I5 := by rw [e5, e4, e3]; exact ((FrI.rf.up rfl).up rfl).up rfl
      refine h I5 ((f1'.tr (f2.mono (fun v i h => V0_sub (by decide) h))).tr f5) ⟨?_, ?_, ?_, fun _ => ?_, fun z => absurd z (by show ¬ (3 : Nat) = 2; decide)⟩
      · rw [e5, up3_v _ (by decide), e4, up3_v _ (by decide), e3, up3_s, ey3]; rfl
      · rw [e5, up3_v _ (by decide), e4, up3_v _ (by decide), e3, up3_v _ (by decide)]; exact s2
      · rw [e5, up3_s, ey5]; exact a4
      · rw [e5, up3_v _ (by decide)]; exact a4
  · rw [hat, hx1t] at c
    rw [if_pos (by omega)] at h
    refine am_goN vX10_nextToken 60 ?_
    refine fun y3 ey3 I3 e3 y4 ey4 I4 e4 y5 ey5 I5 e5 => ?_
    have f5 : FrI (V0 ctv) I1 I5 := by rw [e5, e4, e3]; exact ((FrI.rf.up rfl).up rfl).up rfl
    refine h I5 (f1'.tr f5) ⟨?_, ?_, ?_, fun z => absurd rfl z, fun z => absurd z (by show ¬ (0 : Nat) = 2; decide)⟩
    · rw [e5, up3_v _ (by decide), e4, up3_v _ (by decide), e3, up3_s, ey3]; rfl
    · rw [e5, up3_v _ (by decide), e4, up3_s, ey4]; exact hx1
    · rw [e5, up3_s, ey5]; exact hx1

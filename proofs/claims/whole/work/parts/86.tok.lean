/-! TOKENS, in numbers; the class's tokens. -/
def isA9 (c : Int) : Prop := 97 ≤ c ∧ c ≤ 122
def isD9 (c : Int) : Prop := 48 ≤ c ∧ c ≤ 57
def skp (bs : Nat → Int) (lim : Nat) : Nat → Nat → Nat
  | 0, p => p
  | f + 1, p => if p < lim ∧ (bs p = 32 ∨ bs p = 10) then skp bs lim f (p + 1) else p
def alnE (sz : Nat) (bs : Nat → Int) : Nat → Nat → Nat
  | 0, p => p
  | f + 1, p => if p < sz ∧ ((97 ≤ bs p ∧ bs p ≤ 122) ∨ (48 ≤ bs p ∧ bs p ≤ 57)) then alnE sz bs f (p + 1) else p
/-- letters, digits, the number of the first n signs behind q -/
def rst (bs : Nat → Int) (q : Nat) : Nat → Nat × Nat × Int
  | 0 => (0, 0, 0)
  | n + 1 => if 48 ≤ bs (q + n) ∧ bs (q + n) ≤ 57 then ((rst bs q n).1, (rst bs q n).2.1 + 1, if 4 < (rst bs q n).2.1 + 1 then 0 else (rst bs q n).2.2 * 10 + bs (q + n) - 48) else ((rst bs q n).1 + 1, (rst bs q n).2.1, (rst bs q n).2.2)
/-- a token: kind (0 end, 1 word, 2 number, 3 semicolon, 4 none), where it begins and ends, its number -/
abbrev TK : Type := Nat × Nat × Nat × Int
def rkind (s : Nat × Nat × Int) : Nat := if s.2.1 = 0 ∧ 1 ≤ s.1 ∧ s.1 ≤ 8 then 1 else if s.1 = 0 ∧ 1 ≤ s.2.1 ∧ s.2.1 ≤ 4 then 2 else 4
def tkQ (sz : Nat) (bs : Nat → Int) (p : Nat) : Nat := skp bs (min sz 600) 640 p
def tkE (sz : Nat) (bs : Nat → Int) (q : Nat) : Nat := alnE sz bs 640 q
def tokA (sz : Nat) (bs : Nat → Int) (p : Nat) : TK :=
  if min sz 600 ≤ tkQ sz bs p then (0, min sz 600, min sz 600, 0)
  else if bs (tkQ sz bs p) = 59 then (3, tkQ sz bs p, tkQ sz bs p + 1, 0)
  else (rkind (rst bs (tkQ sz bs p) (tkE sz bs (tkQ sz bs p) - tkQ sz bs p)), tkQ sz bs p, tkE sz bs (tkQ sz bs p), (rst bs (tkQ sz bs p) (tkE sz bs (tkQ sz bs p) - tkQ sz bs p)).2.2)
theorem skp_le {bs : Nat → Int} {lim : Nat} : ∀ (f p : Nat), p ≤ skp bs lim f p ∧ (skp bs lim f p ≤ lim ∨ skp bs lim f p = p)
  | 0, p => ⟨Nat.le_refl _, Or.inr rfl⟩
  | f + 1, p => by
    unfold skp
    split
    · next h =>
      have := skp_le (bs := bs) (lim := lim) f (p + 1)
      omega
    · omega
theorem alnE_le {sz : Nat} {bs : Nat → Int} : ∀ (f p : Nat), p ≤ alnE sz bs f p ∧ (alnE sz bs f p ≤ sz ∨ alnE sz bs f p = p)
  | 0, p => ⟨Nat.le_refl _, Or.inr rfl⟩
  | f + 1, p => by
    unfold alnE
    split
    · next h =>
      have := alnE_le (sz := sz) (bs := bs) f (p + 1)
      omega
    · omega
theorem rst_le {bs : Nat → Int} {q : Nat} : ∀ n : Nat, (rst bs q n).1 + (rst bs q n).2.1 = n
  | 0 => rfl
  | n + 1 => by
    have := rst_le (bs := bs) (q := q) n
    unfold rst
    split
    · dsimp only; omega
    · dsimp only; omega
theorem rst_val {bs : Nat → Int} {q : Nat} (h : ∀ k, 0 ≤ bs k ∧ bs k ≤ 255) : ∀ n : Nat, 0 ≤ (rst bs q n).2.2 ∧ (rst bs q n).2.2 ≤ 9999 ∧ ((rst bs q n).2.1 = 0 → (rst bs q n).2.2 = 0) ∧ ((rst bs q n).2.1 = 1 → (rst bs q n).2.2 ≤ 9) ∧ ((rst bs q n).2.1 = 2 → (rst bs q n).2.2 ≤ 99) ∧ ((rst bs q n).2.1 = 3 → (rst bs q n).2.2 ≤ 999)
  | 0 => by unfold rst; dsimp only; omega
  | n + 1 => by
    have := rst_val (bs := bs) (q := q) h n
    have hb := h (q + n)
    unfold rst
    split
    · next hc =>
      dsimp only
      split
      · omega
      · omega
    · exact this
abbrev ctv : List Nat := [41, 42, 43, 44, 45]
/-- letters and digits are read: behind n of them -/
theorem rld_loop {Γ : AMG} {Q : QQ} {d q : Nat} {I : II} {Lg : LJ} {R : RR} {gc : Nat → Nat} {sz : Nat} {bs : Nat → Int} (hb : BSsok sz bs) (ht : TapeAt I sz bs) (hq : q < sz) :
    ∀ (m n : Nat) (x1 x2 : Int32) (I1 : II), q + n + m = sz → x1 = zI (rst bs q n).1 → x2 = zI (rst bs q n).2.1 → FrI (V0 [41, 45]) I I1 → I1 41 0 0 = zI (q + n : Nat) → I1 45 0 0 = zI (rst bs q n).2.2 →
      (∀ (I' : II) (n' : Nat) (x1 x2 : Int32), alnE sz bs (m + 1) (q + n) = q + n' → x1 = zI (rst bs q n').1 → x2 = zI (rst bs q n').2.1 → FrI (V0 [41, 45]) I I' → I' 41 0 0 = zI (q + n' : Nat) → I' 45 0 0 = zI (rst bs q n').2.2 → am_J Γ mX10_readLettersAndDigits Q (d + 1) 0 0 116 [some (vR 10 0), some (vI x1), some (vI x2)] [] I' Lg R (GM gc)) →
      am_J Γ mX10_readLettersAndDigits Q (d + 1) 0 0 9 [some (vR 10 0), some (vI x1), some (vI x2)] [] I1 Lg R (GM gc) := by
  have hsz := hb.1
  intro m
  induction m with
  | zero =>
    intro n x1 x2 I1 hm e1 e2 hf ha hv h
    have hat : (I1 41 0 0).toInt = (q + n : Nat) := by rw [ha, zI_toInt (by omega) (by omega)]
    have hst : (I1 39 0 0).toInt = sz := by rw [hf _ _ rfl, ht.1, zI_toInt (by omega) (by omega)]
    refine am_goN vX10_readLettersAndDigits 5 ?_
    refine And.intro (fun c => ?_) (fun c => ?_)
    · refine h I1 n x1 x2 ?_ e1 e2 hf ha hv
      unfold alnE
      rw [if_neg (by omega)]
    · rw [hat, hst] at c
      omega
  | succ m ih =>
    intro n x1 x2 I1 hm e1 e2 hf ha hv h
    have hat : (I1 41 0 0).toInt = (q + n : Nat) := by rw [ha, zI_toInt (by omega) (by omega)]
    have hst : (I1 39 0 0).toInt = sz := by rw [hf _ _ rfl, ht.1, zI_toInt (by omega) (by omega)]
    have ht1 : TapeAt I1 sz bs := ht.fr hf rfl rfl
    have hbn := hb.2 (q + n)
    have hl := rst_le (bs := bs) (q := q) n
    have hvr := rst_val (q := q) hb.2 n
    have hlt : q + n < sz := by omega
    have stop : ¬ ((97 ≤ bs (q + n) ∧ bs (q + n) ≤ 122) ∨ (48 ≤ bs (q + n) ∧ bs (q + n) ≤ 57)) → am_J Γ mX10_readLettersAndDigits Q (d + 1) 0 0 116 [some (vR 10 0), some (vI x1), some (vI x2)] [] I1 Lg R (GM gc) := by
      intro hno
      refine h I1 n x1 x2 ?_ e1 e2 hf ha hv
      unfold alnE
      rw [if_neg (fun z => hno z.2)]
    have hgo : ((97 ≤ bs (q + n) ∧ bs (q + n) ≤ 122) ∨ (48 ≤ bs (q + n) ∧ bs (q + n) ≤ 57)) → alnE sz bs (m + 1 + 1) (q + n) = alnE sz bs (m + 1) (q + (n + 1)) := by
      intro hy
      show (if q + n < sz ∧ ((97 ≤ bs (q + n) ∧ bs (q + n) ≤ 122) ∨ (48 ≤ bs (q + n) ∧ bs (q + n) ≤ 57)) then alnE sz bs (m + 1) (q + n + 1) else q + n) = _
      rw [if_pos ⟨hlt, hy⟩]
      rfl
    -- one more sign: from 'at++' on
    have k103 : ∀ (I2 : II) (x1 x2 : Int32), ((97 ≤ bs (q + n) ∧ bs (q + n) ≤ 122) ∨ (48 ≤ bs (q + n) ∧ bs (q + n) ≤ 57)) → x1 = zI (rst bs q (n + 1)).1 → x2 = zI (rst bs q (n + 1)).2.1 → FrI (V0 [41, 45]) I I2 → I2 41 0 0 = zI (q + n : Nat) → I2 45 0 0 = zI (rst bs q (n + 1)).2.2 →
        am_J Γ mX10_readLettersAndDigits Q (d + 1) 0 0 103 [some (vR 10 0), some (vI x1), some (vI x2)] [] I2 Lg R (GM gc) := by
      intro I2 x1 x2 hy e1 e2 f2 a2 v2
      refine am_goN vX10_readLettersAndDigits 7 ?_
      refine fun y ey I3 e3 => ?_
      have f3 : FrI (V0 [41, 45]) I I3 := by rw [e3]; exact f2.up rfl
      refine ih (n + 1) x1 x2 I3 (by omega) e1 e2 f3 (by rw [e3, up3_s, ey, a2, zI_add]; congr 1) (by rw [e3, up3_v _ (by decide)]; exact v2) (fun I4 n' y1 y2 h1 h2 h3 h4 h5 h6 => ?_)
      exact h I4 n' y1 y2 (by rw [hgo hy]; exact h1) h2 h3 h4 h5 h6
    -- a digit or a letter: from the second look on
    have k48 : ((97 ≤ bs (q + n) ∧ bs (q + n) ≤ 122) ∨ (48 ≤ bs (q + n) ∧ bs (q + n) ≤ 57)) → am_J Γ mX10_readLettersAndDigits Q (d + 1) 0 0 48 [some (vR 10 0), some (vI x1), some (vI x2)] [] I1 Lg R (GM gc) := by
      intro hy
      refine am_goN vX10_readLettersAndDigits 6 ?_
      refine s_byteAtE hb ht1 ha hlt ?_
      refine s_isDigit (fun c1 c2 => ?_) (fun c1 => ?_)
      · rw [zI_toInt (by omega) (by omega)] at c1 c2
        refine And.intro (fun c => ?_) (fun _ => ?_)
        · rw [zI_toInt (by omega) (by omega)] at c
          omega
        refine am_goN vX10_readLettersAndDigits 5 ?_
        refine fun y2 ey2 => ?_
        have hy2 : y2 = zI ((rst bs q n).2.1 + 1 : Nat) := by rw [ey2, e2, zI_add]; congr 1
        have hrs : rst bs q (n + 1) = ((rst bs q n).1, (rst bs q n).2.1 + 1, if 4 < (rst bs q n).2.1 + 1 then 0 else (rst bs q n).2.2 * 10 + bs (q + n) - 48) := by
          show (if 48 ≤ bs (q + n) ∧ bs (q + n) ≤ 57 then _ else _) = _
          rw [if_pos ⟨c1, c2⟩]
        refine And.intro (fun c => ?_) (fun c => ?_)
        · rw [hy2, zI_toInt (by omega) (by omega), zI_toInt (by omega) (by omega)] at c
          refine am_goN vX10_readLettersAndDigits (13) ?_
          refine s_byteAtE hb ht1 ha hlt ?_
          refine fun y3 ey3 I3 e3 => ?_
          refine k103 I3 x1 y2 hy (by rw [hrs]; exact e1) (by rw [hrs]; exact hy2) (by rw [e3]; exact hf.up rfl) (by rw [e3, up3_v _ (by decide)]; exact ha) ?_
          rw [e3, up3_s, ey3, hv, hrs, zI_mul, zI_add, zI_sub]
          dsimp only
          rw [if_neg (by omega)]
        · rw [hy2, zI_toInt (by omega) (by omega), zI_toInt (by omega) (by omega)] at c
          refine am_goN vX10_readLettersAndDigits (2 + 2) ?_
          refine fun y3 ey3 I3 e3 => ?_
          refine k103 I3 x1 y2 hy (by rw [hrs]; exact e1) (by rw [hrs]; exact hy2) (by rw [e3]; exact hf.up rfl) (by rw [e3, up3_v _ (by decide)]; exact ha) ?_
          rw [e3, up3_s, ey3, hrs]
          dsimp only
          rw [if_pos (by omega)]
      · rw [zI_toInt (by omega) (by omega)] at c1
        have hrs : rst bs q (n + 1) = ((rst bs q n).1 + 1, (rst bs q n).2.1, (rst bs q n).2.2) := by
          show (if 48 ≤ bs (q + n) ∧ bs (q + n) ≤ 57 then _ else _) = _
          rw [if_neg (by omega)]
        refine And.intro (fun _ => ?_) (fun c => ?_)
        · refine am_goN vX10_readLettersAndDigits 1 ?_
          refine fun y1 ey1 => ?_
          refine k103 I1 y1 x2 hy (by rw [ey1, e1, hrs, zI_add]; congr 1) (by rw [hrs]; exact e2) hf ha (by rw [hrs]; exact hv)
        · rw [zI_toInt (by omega) (by omega)] at c
          omega
    refine am_goN vX10_readLettersAndDigits 11 ?_
    refine And.intro (fun c => ?_) (fun c => ?_)
    · rw [hat, hst] at c
      omega
    refine s_byteAtE hb ht1 ha hlt ?_
    refine s_isLetter (fun c1 c2 => ?_) (fun c1 => ?_)
    · rw [zI_toInt (by omega) (by omega)] at c1 c2
      refine And.intro (fun _ => ?_) (fun c => ?_)
      · exact k48 (Or.inl ⟨c1, c2⟩)
      · rw [zI_toInt (by omega) (by omega)] at c
        omega
    · rw [zI_toInt (by omega) (by omega)] at c1
      refine And.intro (fun c => ?_) (fun _ => ?_)
      · rw [zI_toInt (by omega) (by omega)] at c
        omega
      refine am_goN vX10_readLettersAndDigits 6 ?_
      refine s_byteAtE hb ht1 ha hlt ?_
      refine s_isDigit (fun d1 d2 => ?_) (fun d1 => ?_)
      · rw [zI_toInt (by omega) (by omega)] at d1 d2
        refine And.intro (fun c => ?_) (fun _ => ?_)
        · rw [zI_toInt (by omega) (by omega)] at c
          omega
        · exact k48 (Or.inr ⟨d1, d2⟩)
      · rw [zI_toInt (by omega) (by omega)] at d1
        refine And.intro (fun _ => ?_) (fun c => ?_)
        · exact stop (by omega)
        · rw [zI_toInt (by omega) (by omega)] at c
          omega

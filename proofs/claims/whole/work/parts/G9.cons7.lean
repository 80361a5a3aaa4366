/-! Constructor of the class (printed by wip/whole/genG6.py). -/
theorem GR.cnx {G0 G : GG} {P : Nat → Nat → Nat → Prop} {a : Nat → Nat} (h : GR G0 G P a) (hc0 : ∀ x, x ≠ 11 → G0.2 x = 0) (l : List Nat) (q : Nat) (hl : l.all (fun x => !(Nat.beq x 11) && Nat.beq (a x) q) = true) : ∀ x, l.elem x = true → G.2 x = q := by
  intro x hx
  obtain ⟨h1, h2⟩ := Bool.and_eq_true_iff.mp (List.all_eq_true.mp hl x (List.elem_iff.mp hx))
  have hne : x ≠ 11 := fun e => by
    rw [e] at h1
    cases h1
  rw [h.1, hc0 x hne, Nat.zero_add]
  exact Nat.eq_of_beq_eq_true h2
def dnSL0 : Nat → Nat := fun x => ((((((((((((((((((((0 + d1 10 x) + dnTp x) + d1 60 x) + d1 61 x) + d1 5 x) + dnMc x) + d1 3 x) + dnCw x) + d1 9 x) + (dnRd 8) x) + d1 8 x) + dnP x) + d1 4 x) + dnFl x) + d1 4 x) + dnFl x) + d1 6 x) + (dnNg 24) x) + d1 2 x) + dnCp x)
def PfSL0 : Nat → Nat → Nat → Prop := fun c j k => ((((((((((((((((((((False ∨ PfTp 0 c j k) ∨ (c = 11 ∧ j = 0 ∧ k = 0)) ∨ (c = 11 ∧ j = 0 ∧ k = 1)) ∨ (c = 11 ∧ j = 0 ∧ k = 2)) ∨ PfMc 0 c j k) ∨ (c = 11 ∧ j = 0 ∧ k = 3)) ∨ PfCw c j k) ∨ (c = 11 ∧ j = 0 ∧ k = 4)) ∨ PfRd 8 c j k) ∨ (c = 11 ∧ j = 0 ∧ k = 5)) ∨ PfP 9 c j k) ∨ (c = 11 ∧ j = 0 ∧ k = 6)) ∨ PfFl 0 c j k) ∨ (c = 11 ∧ j = 0 ∧ k = 7)) ∨ PfFl 1 c j k) ∨ (c = 11 ∧ j = 0 ∧ k = 8)) ∨ PfNg 24 c j k) ∨ (c = 11 ∧ j = 0 ∧ k = 9)) ∨ PfCp c j k) ∨ (c = 11 ∧ j = 0 ∧ k = 10))
def dnSL (n : Nat) : Nat → Nat := fun x => dnSL0 x + n * (d1 7 x + dnPt x)
def PfSL (n : Nat) : Nat → Nat → Nat → Prop := fun c j k => (PfSL0 c j k ∨ (c = 7 ∧ j < n ∧ k < 3)) ∨ (c = 61 ∧ j = 0 ∧ k < n)
theorem PfPt_of {j k : Nat} (hk : k < 3) : PfPt j 7 j k := by
  unfold PfPt
  have : k = 0 ∨ k = 1 ∨ k = 2 := by omega
  rcases this with rfl | rfl | rfl <;> simp
set_option maxRecDepth 100000 in
theorem sl_loop {Γ : AMG} {Q : QQ} {d : Nat} {I : II} {Lg : LJ} {R : RR} {G0 : GG} (hN : am_NK Γ) (ho : Opn G0) (hc0 : ∀ x, x ≠ 11 → G0.2 x = 0)
    (h : ∀ (I' : II) (G' : GG), Z9 I' → FrI nD I I' → GR G0 G' (PfSL 4) (dnSL 4) → Q none I' Lg R G') :
    ∀ (m j : Nat) (x1 : Int32) (I1 : II) (G1 : GG), j + m = 4 → x1 = zI j → Z9 I1 → FrI nD I I1 → GR G0 G1 (PfSL j) (dnSL j) → am_J Γ mX11_init Q (d + 3) (4 * m) (40 * m) 127 [some (vR 11 0), some (vI x1)] [] I1 Lg R G1 := by
  intro m
  induction m with
  | zero =>
    intro j x1 I1 G1 hj hx hz fr hI
    have ej : j = 4 := by omega
    subst ej
    refine am_goN vX11_init 20 ?_
    refine And.intro (fun _ => ?_) (fun c => ?_)
    · exact h I1 G1 hz fr hI
    · rw [hx, zI_toInt (by omega) (by omega), zI_toInt (by omega) (by omega)] at c
      omega
  | succ m ih =>
    intro j x1 I1 G1 hj hx hz fr hI
    show am_J Γ mX11_init Q (d + 3) (4 * m + 3 + 1) (40 * m + 36 + 4) 127 [some (vR 11 0), some (vI x1)] [] I1 Lg R G1
    have hxt : x1.toInt = j := by rw [hx, zI_toInt (by omega) (by omega)]
    have h7 : G1.2 7 = j := by
      rw [hI.1, hc0 7 (by decide)]
      show 0 + (dnSL0 7 + j * 1) = j
      rw [show dnSL0 7 = 0 from rfl]
      omega
    have h46 : ∀ t, ([46, 47, 48] : List Nat).elem t = true → (am_newG G1 7).2 t = j := by
      intro t ht
      have ht := List.elem_iff.mp ht
      simp only [List.mem_cons, List.not_mem_nil, or_false] at ht
      rw [(hI.new 7).1]
      rcases ht with rfl | rfl | rfl
      · rw [hc0 46 (by decide)]
        show 0 + (dnSL0 46 + j * 1 + 0) = j
        rw [show dnSL0 46 = 0 from rfl]
        omega
      · rw [hc0 47 (by decide)]
        show 0 + (dnSL0 47 + j * 1 + 0) = j
        rw [show dnSL0 47 = 0 from rfl]
        omega
      · rw [hc0 48 (by decide)]
        show 0 + (dnSL0 48 + j * 1 + 0) = j
        rw [show dnSL0 48 = 0 from rfl]
        omega
    refine am_goN vX11_init 20 ?_
    refine And.intro (fun c => ?_) (fun _ => ?_)
    · rw [hxt, zI_toInt (by omega) (by omega)] at c
      omega
    refine am_cnd (hI.2.2.2 11 0 2 (Or.inl (Or.inl (by unfold PfSL0; simp)))) ?_
    refine am_cnd (am_bop (hI.opn ho 7)) (fun _ => ?_)
    rw [h7]
    refine ar_ctor (M2 := mX7_init) (c := 7) (idx := 84) (host := "StormLoft") (k2 := 3) (n2 := 36) (k := 4 * m) (n := 40 * m) rfl (Nat.add_comm _ _) (Nat.add_comm _ _) ⟨(xok_at (i := 524) (by decide +kernel) (by decide +kernel)), rfl, by decide, by decide, by decide, by decide⟩ rfl rfl (nst hN (i := 522) (by decide +kernel) rfl) (xok_at (i := 523) (by decide +kernel) (by decide +kernel)) (xok_at (i := 113) (by decide +kernel) (by decide +kernel)) rfl (Nat.le_of_ble_eq_true rfl) (by decide +kernel) ?_
    refine s_Ptinit (i := j) hN ((hI.new 7).opn ho) h46 hz (fun I2 H2 hz2 f2 hP => ?_)
    refine am_goN vX11_init 20 ?_
    refine And.intro ⟨by omega, by omega⟩ (And.intro ⟨rfl, ?_⟩ ?_)
    · show j = x1.toInt.toNat
      rw [hxt, Int.toNat_natCast]
    · have hI2 := ((hI.new 7).tr hP).put 61 0 x1.toInt.toNat (by decide)
      rw [hxt, Int.toNat_natCast] at hI2 ⊢
      refine fun x2 e2 => ?_
      refine ih (j + 1) x2 I2 _ (by omega) (by rw [e2, hx, zI_add]; congr 1) hz2 (fr.tr f2) (hI2.sub (fun c i k q => ?_) (fun x => ?_))
      · rcases q with (q | ⟨q1, q3, q4⟩) | ⟨q1, q2, q3⟩
        · exact Or.inl (Or.inl (Or.inl (Or.inl q)))
        · by_cases e : i < j
          · exact Or.inl (Or.inl (Or.inl (Or.inr ⟨q1, e, q4⟩)))
          · have ei : i = j := by omega
            rw [q1, ei]
            exact Or.inl (Or.inr (PfPt_of q4))
        · by_cases e : k < j
          · exact Or.inl (Or.inl (Or.inr ⟨q1, q2, e⟩))
          · exact Or.inr ⟨q1, q2, by omega⟩
      · show dnSL0 x + j * (d1 7 x + dnPt x) + d1 7 x + dnPt x = dnSL0 x + (j + 1) * (d1 7 x + dnPt x)
        rw [Nat.succ_mul]
        omega
set_option maxRecDepth 100000 in
set_option maxHeartbeats 4000000 in
theorem s_SLinit {Γ : AMG} {Q : QQ} {d : Nat} {I : II} {Lg : LJ} {R : RR} {G0 : GG} (hN : am_NK Γ) (ho : Opn G0) (hc0 : ∀ x, x ≠ 11 → G0.2 x = 0) (hz0 : Z9 I)
    (h : ∀ (I' : II) (G' : GG), Z9 I' → FrI nM I I' → (∀ j, j < 24 → I' 91 0 j = zI (-1)) → GR G0 G' (PfSL 4) (dnSL 4) → Q none I' Lg (up3 R 0 0 0 (some 0)) G') : am_Sp Γ (d + 4) 165 4122 mX11_init [vR 11 0] I Lg R G0 Q := by
  have hI0 : GR G0 G0 (fun _ _ _ => False) (fun _ => 0) := GR.rf
  have fr0 : FrI nM I I := FrI.rf
  refine am_runN vX11_init 400 _ rfl rfl rfl rfl ?_
  refine am_cnd (am_bop (hI0.opn ho 10)) (fun _ => ?_)
  have hq1 : G0.2 10 = 0 := (hI0.cnq (q := 0) (hc0 10 (by decide)) rfl)
  rw [hq1]
  refine ar_ctor (M2 := mX10_init) (c := 10) (idx := 9) (host := "StormLoft") (k2 := 2) (n2 := 650) (k := 162) (n := 3463) rfl rfl rfl ⟨(xok_at (i := 137) (by decide +kernel) (by decide +kernel)), rfl, by decide, by decide, by decide, by decide⟩ rfl rfl (nst hN (i := 135) (by decide +kernel) rfl) (xok_at (i := 136) (by decide +kernel) (by decide +kernel)) (xok_at (i := 103) (by decide +kernel) (by decide +kernel)) rfl (Nat.le_of_ble_eq_true rfl) (by decide +kernel) ?_
  refine s_Tpinit (i := 0) ((hI0.new 10).opn ho) ((hI0.new 10).cnx hc0 [58, 59] 0 rfl) hz0 (fun I1 H1 hz1 fq1 hP1 => ?_)
  have fr1 : FrI nM I I1 := fr0.tr (fq1.mono nD_nM)
  refine am_goN vX11_init 400 ?_
  refine And.intro ⟨rfl, rfl⟩ ?_
  have hI1 := ((hI0.new 10).tr hP1).put 11 0 0 (by decide)
  revert hI1
  generalize ((up3 H1.1 11 0 0 true, H1.2) : GG) = G1
  intro hI1
  refine ar_anew (c := 60) (a := 4) (N := 16) (x := 2) (y := 1) (t := 3) (idx := 16) (C := "StormLoft$Board") (k := 161) (n := 3447) (hI1.opn ho 60) rfl ⟨by decide, by decide⟩ rfl (by decide) (xok_at (i := 176) (by decide +kernel) (by decide +kernel)) (nst hN (i := 177) (by decide +kernel) rfl) (by decide +kernel) (fun _ => ?_)
  refine am_goN vX11_init 400 ?_
  refine And.intro ⟨rfl, (hI1.cnt (hc0 60 (by decide)) rfl)⟩ ?_
  have hI2 := (hI1.new 60).put 11 0 1 (by decide)
  revert hI2
  generalize ((up3 (am_newG G1 60).1 11 0 1 true, (am_newG G1 60).2) : GG) = G2
  intro hI2
  refine ar_anew (c := 61) (a := 3) (N := 4) (x := 7) (y := 0) (t := 4) (idx := 22) (C := "StormLoft$Path") (k := 160) (n := 3443) (hI2.opn ho 61) rfl ⟨by decide, by decide⟩ rfl (by decide) (xok_at (i := 178) (by decide +kernel) (by decide +kernel)) (nst hN (i := 179) (by decide +kernel) rfl) (by decide +kernel) (fun _ => ?_)
  refine am_goN vX11_init 400 ?_
  refine And.intro ⟨rfl, (hI2.cnt (hc0 61 (by decide)) rfl)⟩ ?_
  have hI3 := (hI2.new 61).put 11 0 2 (by decide)
  revert hI3
  generalize ((up3 (am_newG G2 61).1 11 0 2 true, (am_newG G2 61).2) : GG) = G3
  intro hI3
  refine am_cnd (am_bop (hI3.opn ho 5)) (fun _ => ?_)
  have hq2 : G3.2 5 = 0 := (hI3.cnq (q := 0) (hc0 5 (by decide)) rfl)
  rw [hq2]
  refine ar_ctor (M2 := mX5_init) (c := 5) (idx := 30) (host := "StormLoft") (k2 := 4) (n2 := 48) (k := 155) (n := 3390) rfl rfl rfl ⟨(xok_at (i := 184) (by decide +kernel) (by decide +kernel)), rfl, by decide, by decide, by decide, by decide⟩ rfl rfl (nst hN (i := 182) (by decide +kernel) rfl) (xok_at (i := 183) (by decide +kernel) (by decide +kernel)) (xok_at (i := 104) (by decide +kernel) (by decide +kernel)) rfl (Nat.le_of_ble_eq_true rfl) (by decide +kernel) ?_
  refine s_Mcinit (i := 0) ((hI3.new 5).opn ho) ((hI3.new 5).cnx hc0 [37, 38, 39, 40] 0 rfl) hz1 (fun I2 H2 hz2 fq2 hP2 => ?_)
  have fr2 : FrI nM I I2 := fr1.tr (fq2.mono nD_nM)
  refine am_goN vX11_init 400 ?_
  refine And.intro ⟨rfl, rfl⟩ ?_
  have hI4 := ((hI3.new 5).tr hP2).put 11 0 3 (by decide)
  revert hI4
  generalize ((up3 H2.1 11 0 3 true, H2.2) : GG) = G4
  intro hI4
  refine am_cnd (am_bop (hI4.opn ho 3)) (fun _ => ?_)
  have hq3 : G4.2 3 = 0 := (hI4.cnq (q := 0) (hc0 3 (by decide)) rfl)
  rw [hq3]
  refine s_Cwinit hN ((hI4.new 3).opn ho) ((hI4.new 3).cnx hc0 [21, 22, 24, 25, 26, 27, 28, 29, 30, 31, 32, 33, 23, 115] 0 rfl) hz2 (fun I3 H3 hz3 fq3 dd3 hP3 => ?_)
  have fr3 : FrI nM I I3 := fr2.tr fq3
  refine And.intro ⟨rfl, rfl⟩ ?_
  have hI5 := ((hI4.new 3).tr hP3).put 11 0 4 (by decide)
  revert hI5
  generalize ((up3 H3.1 11 0 4 true, H3.2) : GG) = G5
  intro hI5
  refine am_cnd (am_bop (hI5.opn ho 9)) (fun _ => ?_)
  have hq4 : G5.2 9 = 0 := (hI5.cnq (q := 0) (hc0 9 (by decide)) rfl)
  rw [hq4]
  refine s_Rdinit hN ((hI5.new 9).opn ho) ((hI5.new 9).cnx hc0 [8, 49, 50, 51, 52, 53, 54, 55, 56, 57] 0 rfl) hz3 (fun I4 H4 hz4 fq4 hP4 => ?_)
  have fr4 : FrI nM I I4 := fr3.tr (fq4.mono nD_nM)
  have dd4 : ∀ j, j < 24 → I4 91 0 j = zI (-1) := fun j hj => by rw [fq4 91 0 rfl]; exact dd3 j hj
  refine And.intro ⟨rfl, rfl⟩ ?_
  have hI6 := ((hI5.new 9).tr hP4).put 11 0 5 (by decide)
  revert hI6
  generalize ((up3 H4.1 11 0 5 true, H4.2) : GG) = G6
  intro hI6
  refine am_cnd (am_bop (hI6.opn ho 8)) (fun _ => ?_)
  have hq5 : G6.2 8 = 9 := (hI6.cnq (q := 9) (hc0 8 (by decide)) rfl)
  rw [hq5]
  refine ar_ctor (M2 := mX8_init) (c := 8) (idx := 51) (host := "StormLoft") (k2 := 3) (n2 := 72) (k := 66) (n := 1460) rfl rfl rfl ⟨(xok_at (i := 279) (by decide +kernel) (by decide +kernel)), rfl, by decide, by decide, by decide, by decide⟩ rfl rfl (nst hN (i := 345) (by decide +kernel) rfl) (xok_at (i := 278) (by decide +kernel) (by decide +kernel)) (xok_at (i := 108) (by decide +kernel) (by decide +kernel)) rfl (Nat.le_of_ble_eq_true rfl) (by decide +kernel) ?_
  refine s_Pinit (i := 9) ((hI6.new 8).opn ho) ((hI6.new 8).cnq (q := 9) (hc0 49 (by decide)) rfl) ((hI6.new 8).cnq (q := 9) (hc0 50 (by decide)) rfl) ((hI6.new 8).cnq (q := 9) (hc0 51 (by decide)) rfl) hz4 (fun I5 H5 hz5 _ fv5 hP5 => ?_)
  have fq5 : FrI nD I4 I5 := fv5.mono (V0_nD (by decide))
  have fr5 : FrI nM I I5 := fr4.tr (fq5.mono nD_nM)
  have dd5 : ∀ j, j < 24 → I5 91 0 j = zI (-1) := fun j hj => by rw [fq5 91 0 rfl]; exact dd4 j hj
  refine am_goN vX11_init 400 ?_
  refine And.intro ⟨rfl, rfl⟩ ?_
  have hI7 := ((hI6.new 8).tr hP5).put 11 0 6 (by decide)
  revert hI7
  generalize ((up3 H5.1 11 0 6 true, H5.2) : GG) = G7
  intro hI7
  refine am_cnd (am_bop (hI7.opn ho 4)) (fun _ => ?_)
  have hq6 : G7.2 4 = 0 := (hI7.cnq (q := 0) (hc0 4 (by decide)) rfl)
  rw [hq6]
  refine ar_ctor (M2 := mX4_init) (c := 4) (idx := 58) (host := "StormLoft") (k2 := 4) (n2 := 42) (k := 61) (n := 1410) rfl rfl rfl ⟨(xok_at (i := 350) (by decide +kernel) (by decide +kernel)), rfl, by decide, by decide, by decide, by decide⟩ rfl rfl (nst hN (i := 348) (by decide +kernel) rfl) (xok_at (i := 349) (by decide +kernel) (by decide +kernel)) (xok_at (i := 109) (by decide +kernel) (by decide +kernel)) rfl (Nat.le_of_ble_eq_true rfl) (by decide +kernel) ?_
  refine s_Flinit (i := 0) hN ((hI7.new 4).opn ho) ((hI7.new 4).cnx hc0 [34, 35, 36, 0] 0 rfl) hz5 (fun I6 H6 hz6 fq6 hP6 => ?_)
  have fr6 : FrI nM I I6 := fr5.tr (fq6.mono nD_nM)
  have dd6 : ∀ j, j < 24 → I6 91 0 j = zI (-1) := fun j hj => by rw [fq6 91 0 rfl]; exact dd5 j hj
  refine am_goN vX11_init 400 ?_
  refine And.intro ⟨rfl, rfl⟩ ?_
  have hI8 := ((hI7.new 4).tr hP6).put 11 0 7 (by decide)
  revert hI8
  generalize ((up3 H6.1 11 0 7 true, H6.2) : GG) = G8
  intro hI8
  refine am_cnd (am_bop (hI8.opn ho 4)) (fun _ => ?_)
  have hq7 : G8.2 4 = 1 := (hI8.cnq (q := 1) (hc0 4 (by decide)) rfl)
  rw [hq7]
  refine ar_ctor (M2 := mX4_init) (c := 4) (idx := 58) (host := "StormLoft") (k2 := 4) (n2 := 42) (k := 56) (n := 1360) rfl rfl rfl ⟨(xok_at (i := 350) (by decide +kernel) (by decide +kernel)), rfl, by decide, by decide, by decide, by decide⟩ rfl rfl (nst hN (i := 348) (by decide +kernel) rfl) (xok_at (i := 349) (by decide +kernel) (by decide +kernel)) (xok_at (i := 109) (by decide +kernel) (by decide +kernel)) rfl (Nat.le_of_ble_eq_true rfl) (by decide +kernel) ?_
  refine s_Flinit (i := 1) hN ((hI8.new 4).opn ho) ((hI8.new 4).cnx hc0 [34, 35, 36, 0] 1 rfl) hz6 (fun I7 H7 hz7 fq7 hP7 => ?_)
  have fr7 : FrI nM I I7 := fr6.tr (fq7.mono nD_nM)
  have dd7 : ∀ j, j < 24 → I7 91 0 j = zI (-1) := fun j hj => by rw [fq7 91 0 rfl]; exact dd6 j hj
  refine am_goN vX11_init 400 ?_
  refine And.intro ⟨rfl, rfl⟩ ?_
  have hI9 := ((hI8.new 4).tr hP7).put 11 0 8 (by decide)
  revert hI9
  generalize ((up3 H7.1 11 0 8 true, H7.2) : GG) = G9
  intro hI9
  refine am_cnd (am_bop (hI9.opn ho 6)) (fun _ => ?_)
  have hq8 : G9.2 6 = 0 := (hI9.cnq (q := 0) (hc0 6 (by decide)) rfl)
  rw [hq8]
  refine s_Nginit hN ((hI9.new 6).opn ho) ((hI9.new 6).cnq (q := 2) (hc0 0 (by decide)) rfl) ((hI9.new 6).cnx hc0 [41, 42, 43, 44, 45] 0 rfl) hz7 (fun I8 H8 hz8 fq8 hP8 => ?_)
  have fr8 : FrI nM I I8 := fr7.tr (fq8.mono nD_nM)
  have dd8 : ∀ j, j < 24 → I8 91 0 j = zI (-1) := fun j hj => by rw [fq8 91 0 rfl]; exact dd7 j hj
  refine And.intro ⟨rfl, rfl⟩ ?_
  have hI10 := ((hI9.new 6).tr hP8).put 11 0 9 (by decide)
  revert hI10
  generalize ((up3 H8.1 11 0 9 true, H8.2) : GG) = G10
  intro hI10
  refine am_cnd (am_bop (hI10.opn ho 2)) (fun _ => ?_)
  have hq9 : G10.2 2 = 0 := (hI10.cnq (q := 0) (hc0 2 (by decide)) rfl)
  rw [hq9]
  refine ar_ctor (M2 := mX2_init) (c := 2) (idx := 75) (host := "StormLoft") (k2 := 9) (n2 := 101) (k := 16) (n := 160) rfl rfl rfl ⟨(xok_at (i := 473) (by decide +kernel) (by decide +kernel)), rfl, by decide, by decide, by decide, by decide⟩ rfl rfl (nst hN (i := 471) (by decide +kernel) rfl) (xok_at (i := 472) (by decide +kernel) (by decide +kernel)) (xok_at (i := 112) (by decide +kernel) (by decide +kernel)) rfl (Nat.le_of_ble_eq_true rfl) (by decide +kernel) ?_
  refine s_Cpinit hN ((hI10.new 2).opn ho) ((hI10.new 2).cnq (q := 26) (hc0 0 (by decide)) rfl) ((hI10.new 2).cnx hc0 [13, 14, 15, 16, 17, 18, 19, 20] 0 rfl) hz8 (fun I9 H9 hz9 fq9 hP9 => ?_)
  have fr9 : FrI nM I I9 := fr8.tr (fq9.mono nD_nM)
  have dd9 : ∀ j, j < 24 → I9 91 0 j = zI (-1) := fun j hj => by rw [fq9 91 0 rfl]; exact dd8 j hj
  refine am_goN vX11_init 400 ?_
  refine And.intro ⟨rfl, rfl⟩ ?_
  have hI11 := ((hI10.new 2).tr hP9).put 11 0 10 (by decide)
  revert hI11
  generalize ((up3 H9.1 11 0 10 true, H9.2) : GG) = G11
  intro hI11
  refine fun y10 e10 I10 f10 => ?_
  have hz10 : Z9 I10 := by rw [f10]; exact hz9.up (Or.inr e10)
  have fr10 : FrI nM I I10 := by rw [f10]; exact fr9.up rfl
  have dd10 : ∀ j, j < 24 → I10 91 0 j = zI (-1) := fun j hj => by rw [f10, up3_v _ (by decide)]; exact dd9 j hj
  refine fun x1 ex1 => ?_
  refine sl_loop (d := d + 1) hN ho hc0 (fun I2 G2 z2 f2 g2 => h I2 G2 z2 (fr10.tr (f2.mono nD_nM)) (fun j hj => by rw [f2 91 0 rfl]; exact dd10 j hj) g2) 4 0 x1 I10 G11 rfl ex1 hz10 FrI.rf (hI11.sub (fun c j k q => ?_) (fun x => by show dnSL0 x = dnSL0 x + 0 * (d1 7 x + dnPt x); rw [Nat.zero_mul]; rfl))
  rcases q with (q | ⟨-, q2, -⟩) | ⟨-, -, q3⟩
  · exact q
  · omega
  · omega

/-! The reference's tokens: go. -/
def gdP (bs : Nat → Int) (q n : Nat) (lt : Bool) : Prop := match lt with
  | true => letP bs q n
  | false => digP bs q n
theorem gdP_s {bs : Nat → Int} {q n : Nat} {lt : Bool} : gdP bs q (n + 1) lt ↔ gdP bs q n lt ∧ (match lt with | true => 97 ≤ bs (q + n) ∧ bs (q + n) ≤ 122 | false => 48 ≤ bs (q + n) ∧ bs (q + n) ≤ 57) := by
  cases lt
  · constructor
    · exact fun h => ⟨fun i hi => h i (by omega), h n (by omega)⟩
    · rintro ⟨h1, h2⟩ i hi
      by_cases e : i = n
      · subst e; exact h2
      · exact h1 i (by omega)
  · constructor
    · exact fun h => ⟨fun i hi => h i (by omega), h n (by omega)⟩
    · rintro ⟨h1, h2⟩ i hi
      by_cases e : i = n
      · subst e; exact h2
      · exact h1 i (by omega)
theorem mscan_loop {Γ : AMG} {Q : QQ} {d q : Nat} {x1 x2 : Int32} {lt : Bool} {I : II} {Lg : LJ} {R : RR} {gc : Nat → Nat} {sz : Nat} {bs : Nat → Int} (hb : BSsok sz bs) (ht : ∀ k, k < sz → I 125 0 k = zI (bs k)) (hs : I 61 0 0 = zI sz) (hq : q < sz) (hfr : I 63 0 0 = zI q) (hx2 : x2 = zI (cond lt 1 0)) :
    ∀ (m n : Nat) (x3 : Int32) (l4 : Option AV) (I1 : II) (Lg1 : LJ), q + n + m = sz → ((x3 = zI 1 ∧ gdP bs q n lt) ∨ (x3 = zI 0 ∧ ¬ gdP bs q n lt)) → FrI (V0 [62, 65]) I I1 → FrW Lg Lg1 → I1 62 0 0 = zI (q + n : Nat) → Lg1 0 0 0 = zL (hwN bs q n) → I1 65 0 0 = zI (nvN bs q n) →
      (∀ (I' : II) (Lg' : LJ) (n' : Nat) (x3 : Int32) (l4 : Option AV), alnE sz bs (m + 1) (q + n) = q + n' → ((x3 = zI 1 ∧ gdP bs q n' lt) ∨ (x3 = zI 0 ∧ ¬ gdP bs q n' lt)) → FrI (V0 [62, 65]) I I' → FrW Lg Lg' → I' 62 0 0 = zI (q + n' : Nat) → Lg' 0 0 0 = zL (hwN bs q n') → I' 65 0 0 = zI (nvN bs q n') → am_J Γ mX12_go Q (d + 1) 0 0 312 [some (vR 12 0), some (vI x1), some (vI x2), some (vI x3), l4] [] I' Lg' R (GM gc)) →
      am_J Γ mX12_go Q (d + 1) 0 0 177 [some (vR 12 0), some (vI x1), some (vI x2), some (vI x3), l4] [] I1 Lg1 R (GM gc) := by
  have hsz := hb.1
  intro m
  induction m with
  | zero =>
    intro n x3 l4 I1 Lg1 hm hx3 hf hfl ha hw hv h
    have t1 : ∀ k, k < sz → I1 125 0 k = zI (bs k) := fun k hk => by rw [hf _ _ rfl]; exact ht k hk
    have s1 : I1 61 0 0 = zI sz := by rw [hf _ _ rfl]; exact hs
    refine am_goN vX12_go 6 ?_
    refine s_mbyteAt hb t1 s1 ha (by omega) ?_
    rw [if_neg (by omega)]
    refine s_misLetter (fun c1 c2 => ?_) (fun _ => ?_)
    · rw [zI_toInt (by omega) (by omega)] at c1
      omega
    refine And.intro (fun c => ?_) (fun _ => ?_)
    · rw [zI_toInt (by omega) (by omega)] at c
      omega
    refine am_goN vX12_go 6 ?_
    refine s_mbyteAt hb t1 s1 ha (by omega) ?_
    rw [if_neg (by omega)]
    refine s_misDigit (fun c1 c2 => ?_) (fun _ => ?_)
    · rw [zI_toInt (by omega) (by omega)] at c1
      omega
    refine And.intro (fun _ => ?_) (fun c => ?_)
    · refine h I1 Lg1 n x3 l4 ?_ hx3 hf hfl ha hw hv
      unfold alnE
      rw [if_neg (by omega)]
    · rw [zI_toInt (by omega) (by omega)] at c
      omega
  | succ m ih =>
    intro n x3 l4 I1 Lg1 hm hx3 hf hfl ha hw hv h
    have t1 : ∀ k, k < sz → I1 125 0 k = zI (bs k) := fun k hk => by rw [hf _ _ rfl]; exact ht k hk
    have s1 : I1 61 0 0 = zI sz := by rw [hf _ _ rfl]; exact hs
    have hbn := hb.2 (q + n)
    have hat : (I1 62 0 0).toInt = (q + n : Nat) := by rw [ha, zI_toInt (by omega) (by omega)]
    have han : (I1 62 0 0).toInt.toNat = q + n := by rw [hat]; omega
    have hlt : q + n < sz := by omega
    have hgo : ((97 ≤ bs (q + n) ∧ bs (q + n) ≤ 122) ∨ (48 ≤ bs (q + n) ∧ bs (q + n) ≤ 57)) → alnE sz bs (m + 1 + 1) (q + n) = alnE sz bs (m + 1) (q + (n + 1)) := by
      intro hy
      show (if q + n < sz ∧ ((97 ≤ bs (q + n) ∧ bs (q + n) ≤ 122) ∨ (48 ≤ bs (q + n) ∧ bs (q + n) ≤ 57)) then alnE sz bs (m + 1) (q + n + 1) else q + n) = _
      rw [if_pos ⟨hlt, hy⟩]
      rfl
    have k205 : ((97 ≤ bs (q + n) ∧ bs (q + n) ≤ 122) ∨ (48 ≤ bs (q + n) ∧ bs (q + n) ≤ 57)) → am_J Γ mX12_go Q (d + 1) 0 0 205 [some (vR 12 0), some (vI x1), some (vI x2), some (vI x3), l4] [] I1 Lg1 R (GM gc) := by
      intro hy
      -- to++
      have k299 : ∀ (I2 : II) (Lg2 : LJ) (x3 x4 : Int32), ((x3 = zI 1 ∧ gdP bs q (n + 1) lt) ∨ (x3 = zI 0 ∧ ¬ gdP bs q (n + 1) lt)) → FrI (V0 [62, 65]) I I2 → FrW Lg Lg2 → I2 62 0 0 = zI (q + n : Nat) → Lg2 0 0 0 = zL (hwN bs q (n + 1)) → I2 65 0 0 = zI (nvN bs q (n + 1)) →
          am_J Γ mX12_go Q (d + 1) 0 0 299 [some (vR 12 0), some (vI x1), some (vI x2), some (vI x3), some (vI x4)] [] I2 Lg2 R (GM gc) := by
        intro I2 Lg2 x3 x4 g2 f2 w2 a2 h2 v2
        refine am_goN vX12_go 7 ?_
        refine fun y ey I3 e3 => ?_
        refine ih (n + 1) x3 _ I3 Lg2 (by omega) g2 (by rw [e3]; exact f2.up rfl) w2 (by rw [e3, up3_s, ey, a2, zI_add]; congr 1) h2 (by rw [e3, up3_v _ (by decide)]; exact v2) (fun I4 Lg4 n' y3 l4 r1 r2 r3 r4 r5 r6 r7 => ?_)
        exact h I4 Lg4 n' y3 l4 (by rw [hgo hy]; exact r1) r2 r3 r4 r5 r6 r7
      have k235 : ∀ (x3 x4 : Int32), x4 = zI (bs (q + n)) → ((x3 = zI 1 ∧ gdP bs q (n + 1) lt) ∨ (x3 = zI 0 ∧ ¬ gdP bs q (n + 1) lt)) → am_J Γ mX12_go Q (d + 1) 0 0 235 [some (vR 12 0), some (vI x1), some (vI x2), some (vI x3), some (vI x4)] [] I1 Lg1 R (GM gc) := by
        intro x3 x4 hx4 g2
        have hfr1 : I1 63 0 0 = zI q := by rw [hf _ _ rfl]; exact hfr
        have hdif : (I1 62 0 0 - I1 63 0 0).toInt = n := by rw [ha, hfr1, zI_sub, zI_toInt (by omega) (by omega)]; omega
        have k269 : ∀ (Lg2 : LJ), FrW Lg Lg2 → Lg2 0 0 0 = zL (hwN bs q (n + 1)) → am_J Γ mX12_go Q (d + 1) 0 0 269 [some (vR 12 0), some (vI x1), some (vI x2), some (vI x3), some (vI x4)] [] I1 Lg2 R (GM gc) := by
          intro Lg2 w2 h2
          refine am_goN vX12_go 7 ?_
          refine And.intro (fun c => ?_) (fun c => ?_)
          · rw [hdif, zI_toInt (by omega) (by omega)] at c
            refine k299 I1 Lg2 x3 x4 g2 hf w2 ha h2 ?_
            rw [hv]
            show _ = zI (if n < 4 then _ else nvN bs q n)
            rw [if_neg (by omega)]
          · rw [hdif, zI_toInt (by omega) (by omega)] at c
            refine am_goN vX12_go 10 ?_
            refine fun y ey I2 e2 => ?_
            refine k299 I2 Lg2 x3 x4 g2 (by rw [e2]; exact hf.up rfl) w2 (by rw [e2, up3_v _ (by decide)]; exact ha) h2 ?_
            rw [e2, up3_s, ey, hv, hx4, zI_mul, zI_add, zI_sub]
            show _ = zI (if n < 4 then _ else nvN bs q n)
            rw [if_pos (by omega)]
        refine am_goN vX12_go 7 ?_
        refine And.intro (fun c => ?_) (fun c => ?_)
        · rw [hdif, zI_toInt (by omega) (by omega)] at c
          refine k269 Lg1 hfl ?_
          rw [hw]
          show _ = zL (if n < 8 then _ else hwN bs q n)
          rw [if_neg (by omega)]
        · rw [hdif, zI_toInt (by omega) (by omega)] at c
          refine am_goN vX12_go 11 ?_
          refine k269 _ (hfl.up _) ?_
          rw [up3_s, hw, hx4, zI_L (by omega) (by omega), zL_mul, zL_add, zL_sub]
          show _ = zL (if n < 8 then _ else hwN bs q n)
          rw [if_pos (by omega)]
          rfl
      refine am_goN vX12_go 8 ?_
      refine And.intro ⟨by omega, by omega⟩ ?_
      rw [han]
      refine fun x4 ex4 => ?_
      have hx4 : x4 = zI (bs (q + n)) := by rw [ex4, t1 _ hlt]
      have k233 : ¬ gdP bs q (n + 1) lt → am_J Γ mX12_go Q (d + 1) 0 0 233 [some (vR 12 0), some (vI x1), some (vI x2), some (vI x3), some (vI x4)] [] I1 Lg1 R (GM gc) := by
        intro hno
        refine am_goN vX12_go 2 ?_
        exact fun y ey => k235 y x4 hx4 (Or.inr ⟨ey, hno⟩)
      refine And.intro (fun c => ?_) (fun c => ?_)
      · refine k233 (fun z => ?_)
        rcases hx3 with ⟨hx3, -⟩ | ⟨-, hx3⟩
        · rw [hx3, zI_toInt (by omega) (by omega)] at c
          omega
        · exact hx3 (gdP_s.mp z).1
      have hg : gdP bs q n lt := by
        rcases hx3 with ⟨-, hx3⟩ | ⟨hx3, -⟩
        · exact hx3
        · rw [hx3, zI_toInt (by omega) (by omega)] at c
          omega
      refine am_goN vX12_go 4 ?_
      rw [hx4]
      refine s_misLetter (fun c1 c2 => ?_) (fun c1 => ?_)
      · rw [zI_toInt (by omega) (by omega)] at c1 c2
        rw [← hx4]
        refine And.intro (fun c3 => ?_) (fun c3 => ?_)
        · refine k233 (fun z => ?_)
          have hz := (gdP_s.mp z).2
          cases lt
          · have hz : 48 ≤ bs (q + n) ∧ bs (q + n) ≤ 57 := hz
            omega
          · rw [hx2] at c3
            exact c3 rfl
        · refine am_goN vX12_go 3 ?_
          refine fun y ey => k235 y x4 hx4 (Or.inl ⟨ey, gdP_s.mpr ⟨hg, ?_⟩⟩)
          cases lt
          · rw [hx2] at c3
            exact absurd c3 (by show ¬ (zI 1).toInt = (zI 0).toInt; rw [zI_toInt (by omega) (by omega), zI_toInt (by omega) (by omega)]; omega)
          · exact ⟨c1, c2⟩
      · rw [zI_toInt (by omega) (by omega)] at c1
        rw [← hx4]
        refine And.intro (fun c3 => ?_) (fun c3 => ?_)
        · refine k233 (fun z => ?_)
          have hz := (gdP_s.mp z).2
          cases lt
          · rw [hx2] at c3
            exact c3 rfl
          · have hz : 97 ≤ bs (q + n) ∧ bs (q + n) ≤ 122 := hz
            omega
        · refine am_goN vX12_go 3 ?_
          refine fun y ey => k235 y x4 hx4 (Or.inl ⟨ey, gdP_s.mpr ⟨hg, ?_⟩⟩)
          cases lt
          · show 48 ≤ bs (q + n) ∧ bs (q + n) ≤ 57
            omega
          · rw [hx2] at c3
            exact absurd c3 (by show ¬ (zI 0).toInt = (zI 1).toInt; rw [zI_toInt (by omega) (by omega), zI_toInt (by omega) (by omega)]; omega)
    refine am_goN vX12_go 6 ?_
    refine s_mbyteAt hb t1 s1 ha (by omega) ?_
    rw [if_pos (by omega)]
    refine s_misLetter (fun c1 c2 => ?_) (fun c1 => ?_)
    · rw [zI_toInt (by omega) (by omega)] at c1 c2
      refine And.intro (fun _ => ?_) (fun c => ?_)
      · exact k205 (Or.inl ⟨c1, c2⟩)
      · rw [zI_toInt (by omega) (by omega)] at c
        omega
    rw [zI_toInt (by omega) (by omega)] at c1
    refine And.intro (fun c => ?_) (fun _ => ?_)
    · rw [zI_toInt (by omega) (by omega)] at c
      omega
    refine am_goN vX12_go 6 ?_
    refine s_mbyteAt hb t1 s1 ha (by omega) ?_
    rw [if_pos (by omega)]
    refine s_misDigit (fun d1 d2 => ?_) (fun d1 => ?_)
    · rw [zI_toInt (by omega) (by omega)] at d1 d2
      refine And.intro (fun c => ?_) (fun _ => ?_)
      · rw [zI_toInt (by omega) (by omega)] at c
        omega
      · exact k205 (Or.inr ⟨d1, d2⟩)
    · rw [zI_toInt (by omega) (by omega)] at d1
      refine And.intro (fun _ => ?_) (fun c => ?_)
      · refine h I1 Lg1 n x3 l4 ?_ hx3 hf hfl ha hw hv
        unfold alnE
        rw [if_neg (by omega)]
      · rw [zI_toInt (by omega) (by omega)] at c
        omega

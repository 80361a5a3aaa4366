/-! The law's other calls, further. -/
section WOPS3
variable {Γ : AMG} {Q : QQ} {d k n i : Nat} {I : II} {Lg : LJ} {R : RR} {gc : Nat → Nat} {sz : Nat} {bs : Nat → Int} {bd : List BD} {rn : Nat → RUN} {ks : KS} {ml : List MC} {mn : List Int} {es : List EV} {ft : Int} {nt : NT} {nk : KS} {dn : Nat → Int} {made : Bool} {ld : List Int} {o5 o6 : Option AV}
theorem zI_eq4 {r q : Nat} {x : Int32} (hr : r < 4) (hq : q < 4) (h1 : x = zI r) (h2 : x = zI q) : q = r := by
  have e1 := congrArg Int32.toInt (h1.symm.trans h2)
  rw [zI_toInt (by omega) (by omega), zI_toInt (by omega) (by omega)] at e1
  omega
set_option maxRecDepth 100000 in
theorem w_score (hW : SWok Γ) (hK : KWok Γ) (hs : am_scr Γ) (hL : Γ.scr.2.1 ≤ 3072) (hi : i + 6 ≤ Γ.scr.2.1) (hT : TI I R sz bs bd rn ks ml mn es ft nt nk dn made ld) (K : WK Γ Q d k n (zI i)) : am_J Γ mL_law Q (d + 30) (k + 1) (n + 6) 543 (LL7 (zI i) o5 o6) [] I Lg R (GM gc) := by
  obtain ⟨hP, hC, hM⟩ := hT
  refine am_goN vL_law 2 ?_
  refine c_score hW hK hP.1.1 hP.2.1.1 hC (fun e he I1 R1 f1 C1 => ?_) (fun L hLs h1 h2 I1 R1 f1 C1 => ?_)
  · refine am_goN vL_law 2 ?_
    refine m_score hP.1.1 hP.2.1.1 (hM.frC f1) (fun e2 he2 I2 Lg2 f2 M2 => ?_) (fun L hLs => by rw [he] at hLs; cases hLs)
    have ee : e2 = e := by rw [he] at he2; exact (Sum.inr.inj he2).symm
    subst ee
    refine am_goN vL_law 1 ?_
    refine And.intro (fun _ => ?_) (fun c => absurd rfl c)
    exact K.go ⟨⟨⟨hP.1.1.le (Nat.zero_le _), hP.1.2⟩, hP.2⟩, C1.frM f2, M2⟩
  · refine am_goN vL_law 2 ?_
    refine m_score hP.1.1 hP.2.1.1 (hM.frC f1) (fun e2 he2 => by rw [hLs] at he2; cases he2) (fun L2 hLs2 _ _ I2 Lg2 f2 M2 => ?_)
    have ee : L2 = L := by rw [hLs] at hLs2; exact (Sum.inl.inj hLs2).symm
    subst ee
    obtain ⟨p1, p2, p3⟩ := srt_ok hP.2.1.1 h1 h2
    refine am_goN vL_law 1 ?_
    refine And.intro (fun _ => ?_) (fun c => absurd rfl c)
    exact K.go ⟨⟨⟨hP.1.1.le (Nat.zero_le _), hP.1.2⟩, hP.2.1, ⟨p1, p2, p3⟩, hP.2.2.2⟩, C1.frM f2, M2⟩
set_option maxRecDepth 100000 in
theorem w_fault (hs : am_scr Γ) (hL : Γ.scr.2.1 ≤ 3072) (hi : i + 6 ≤ Γ.scr.2.1) (hT : TI I R sz bs bd rn ks ml mn es ft nt nk dn made ld) (K : WK Γ Q d k n (zI i)) : am_J Γ mL_law Q (d + 30) (k + 1) (n + 6) 556 (LL7 (zI i) o5 o6) [] I Lg R (GM gc) := by
  obtain ⟨hP, hC, hM⟩ := hT
  refine am_goN vL_law 2 ?_
  refine s_fault ?_
  refine am_goN vL_law 2 ?_
  refine s_mfault ?_
  refine am_goN vL_law 1 ?_
  refine And.intro (fun _ => ?_) (fun c => absurd (by rw [hC.2.1.2.2.2, hM.2.1.2.2.2]) c)
  exact K.go ⟨hP, hC.frM (hM.thr _).1, (hM.thr _).2⟩
set_option maxRecDepth 100000 in
theorem w_night (hs : am_scr Γ) (hL : Γ.scr.2.1 ≤ 3072) (hi : i + 6 ≤ Γ.scr.2.1) (hT : TI I R sz bs bd rn ks ml mn es ft nt nk dn made ld) (K : WK Γ Q d k n (zI i)) : am_J Γ mL_law Q (d + 30) (k + 1) (n + 6) 637 (LL7 (zI i) o5 o6) [] I Lg R (GM gc) := by
  obtain ⟨hP, hC, hM⟩ := hT
  refine am_goN vL_law 2 ?_
  refine c_night hP.1.2.2.1 hP.2.1.1 hP.2.1.2.1 hP.2.2.1.1 hP.2.2.1.2.1 hP.2.2.1.2.2 hC (fun I1 f1 C1 => ?_)
  refine am_goN vL_law 2 ?_
  refine m_night hP.1.2.2.1 hP.2.1.1 hP.2.1.2.1 hP.2.2.1.1 hP.2.2.1.2.1 (hM.frC f1) (fun I2 f2 M2 => ?_)
  generalize nightA rn ml es = N at C1 M2 ⊢
  refine am_goN vL_law 1 ?_
  refine And.intro (fun _ => ?_) (fun c => absurd rfl c)
  exact K.go ⟨⟨hP.1, hP.2.1, hP.2.2.1, C1.2.2.1.2.2.2.2.2.2.1, hP.2.2.2.2⟩, C1.frM f2, M2⟩
set_option maxRecDepth 100000 in
theorem w_told (hs : am_scr Γ) (hL : Γ.scr.2.1 ≤ 3072) (hi : i + 6 ≤ Γ.scr.2.1) (hT : TI I R sz bs bd rn ks ml mn es ft nt nk dn made ld) (K : WK Γ Q d k n (zI i)) : am_J Γ mL_law Q (d + 30) (k + 1) (n + 6) 718 (LL7 (zI i) o5 o6) [] I Lg R (GM gc) := by
  obtain ⟨hP, hC, hM⟩ := hT
  refine am_goN vL_law 1 ?_
  refine lrd1 hs hL hi (by decide +kernel) ?_
  refine am_goN vL_law 1 ?_
  refine s_told hC.2.2.1 ?_
  refine am_goN vL_law 1 ?_
  refine lrd1 hs hL hi (by decide +kernel) ?_
  refine am_goN vL_law 1 ?_
  refine s_mtold hM.2.2.1 ?_
  refine am_goN vL_law 1 ?_
  refine And.intro (fun _ => ?_) (fun c => absurd rfl c)
  exact K.go ⟨hP, hC.frM (hM.thr _).1, (hM.thr _).2⟩
set_option maxRecDepth 100000 in
theorem w_who (hs : am_scr Γ) (hL : Γ.scr.2.1 ≤ 3072) (hi : i + 6 ≤ Γ.scr.2.1) (hT : TI I R sz bs bd rn ks ml mn es ft nt nk dn made ld) (K : WK Γ Q d k n (zI i)) : am_J Γ mL_law Q (d + 30) (k + 1) (n + 6) 756 (LL7 (zI i) o5 o6) [] I Lg R (GM gc) := by
  obtain ⟨hP, hC, hM⟩ := hT
  refine am_goN vL_law 1 ?_
  refine lrd1 hs hL hi (by decide +kernel) ?_
  refine am_goN vL_law 1 ?_
  refine s_who hC.2.1.2.2.1 hC.2.2.2.1 ?_
  refine am_goN vL_law 1 ?_
  refine lrd1 hs hL hi (by decide +kernel) ?_
  refine am_goN vL_law 1 ?_
  refine s_mwho hP.2.2.1.1.1 hM.2.1.2.2.1 hM.2.2.2.1 ?_
  refine am_goN vL_law 1 ?_
  refine And.intro (fun _ => ?_) (fun c => absurd rfl c)
  exact K.go ⟨hP, hC.frM (hM.thr _).1, (hM.thr _).2⟩
set_option maxRecDepth 100000 in
theorem w_balls (hs : am_scr Γ) (hL : Γ.scr.2.1 ≤ 3072) (hi : i + 6 ≤ Γ.scr.2.1) (hT : TI I R sz bs bd rn ks ml mn es ft nt nk dn made ld) (K : WK Γ Q d k n (zI i)) : am_J Γ mL_law Q (d + 30) (k + 1) (n + 6) 781 (LL7 (zI i) o5 o6) [] I Lg R (GM gc) := by
  obtain ⟨hP, hC, hM⟩ := hT
  refine am_goN vL_law 1 ?_
  refine lrd2 hs hL hi (by decide +kernel) ?_
  refine am_goN vL_law 1 ?_
  refine c_balls hP.1.2.2.1 hP.2.1.1 hP.2.2.1.1 hC (fun h1 => ?_) (fun r hr hx h1 h2 h3 I1 f1 C1 => ?_)
  · refine am_goN vL_law 1 ?_
    refine lrd2 hs hL hi (by decide +kernel) ?_
    refine am_goN vL_law 1 ?_
    refine m_balls hP.1.2.2.1 hP.2.1.1 hP.2.2.1.1 hM (fun _ I2 f2 M2 => ?_) (fun r hr hx g1 g2 g3 => absurd ⟨r, hr, hx, g1, g2, g3⟩ h1)
    refine am_goN vL_law 1 ?_
    refine And.intro (fun _ => ?_) (fun c => absurd rfl c)
    exact K.go ⟨hP, hC.frM f2, M2⟩
  · refine am_goN vL_law 1 ?_
    refine lrd2 hs hL hi (by decide +kernel) ?_
    refine am_goN vL_law 1 ?_
    refine m_balls hP.1.2.2.1 hP.2.1.1 hP.2.2.1.1 (hM.frC f1) (fun g => absurd ⟨r, hr, hx, h1, by assumption, by assumption⟩ g) (fun r2 hr2 hx2 g1 g2 g3 I2 f2 M2 => ?_)
    have e2 := zI_eq4 hr hr2 hx hx2
    subst e2
    refine am_goN vL_law 1 ?_
    refine And.intro (fun _ => ?_) (fun c => absurd rfl c)
    exact K.go ⟨hP, C1.frM f2, M2⟩
set_option maxRecDepth 100000 in
theorem w_fillings (hs : am_scr Γ) (hL : Γ.scr.2.1 ≤ 3072) (hi : i + 6 ≤ Γ.scr.2.1) (hT : TI I R sz bs bd rn ks ml mn es ft nt nk dn made ld) (K : WK Γ Q d k n (zI i)) : am_J Γ mL_law Q (d + 30) (k + 1) (n + 6) 818 (LL7 (zI i) o5 o6) [] I Lg R (GM gc) := by
  obtain ⟨hP, hC, hM⟩ := hT
  refine am_goN vL_law 1 ?_
  refine lrd1 hs hL hi (by decide +kernel) ?_
  refine am_goN vL_law 1 ?_
  refine s_fillings (S := (es, false)) hP.2.1.1 hC.2.1.1 hC.2.1.2.2.1 hP.2.2.1.1 (fun h1 => ?_) (fun kb mc hx h1 h2 => ?_)
  · refine am_goN vL_law 1 ?_
    refine lrd1 hs hL hi (by decide +kernel) ?_
    refine am_goN vL_law 1 ?_
    refine m_fillings hP.2.1.1 hP.2.2.1.1 hM (fun _ I2 f2 M2 => ?_) (fun kb mc g1 g2 g3 => absurd g3 (h1 kb mc g1 g2))
    refine am_goN vL_law 1 ?_
    refine And.intro (fun _ => ?_) (fun c => absurd rfl c)
    exact K.go ⟨hP, hC.frM f2, M2⟩
  · refine am_goN vL_law 1 ?_
    refine lrd1 hs hL hi (by decide +kernel) ?_
    refine am_goN vL_law 1 ?_
    refine m_fillings hP.2.1.1 hP.2.2.1.1 hM (fun g => absurd h2 (g kb mc hx h1)) (fun kb2 mc2 hx2 g1 g2 I2 f2 M2 => ?_)
    have e2 : kb2 = kb := by
      have e1 := congrArg Int32.toInt (hx.symm.trans hx2)
      have b1 := (List.getElem?_eq_some_iff.mp h1).1
      have b2 := (List.getElem?_eq_some_iff.mp g1).1
      have b3 := hP.2.1.1.1
      rw [zI_toInt (by omega) (by omega), zI_toInt (by omega) (by omega)] at e1
      omega
    subst e2
    have e3 : mc2 = mc := by rw [h1] at g1; exact (Option.some.inj g1).symm
    subst e3
    refine am_goN vL_law 1 ?_
    refine And.intro (fun _ => ?_) (fun c => absurd rfl c)
    exact K.go ⟨hP, hC.frM f2, M2⟩
set_option maxRecDepth 100000 in
theorem w_lay (hs : am_scr Γ) (hL : Γ.scr.2.1 ≤ 3072) (hi : i + 6 ≤ Γ.scr.2.1) (hT : TI I R sz bs bd rn ks ml mn es ft nt nk dn made ld) (K : WK Γ Q d k n (zI i)) : am_J Γ mL_law Q (d + 30) (k + 1) (n + 6) 843 (LL7 (zI i) o5 o6) [] I Lg R (GM gc) := by
  obtain ⟨hP, hC, hM⟩ := hT
  refine am_goN vL_law 1 ?_
  refine lrd1 hs hL hi (by decide +kernel) ?_
  refine am_goN vL_law 1 ?_
  refine c_lay hP.1.1 hP.1.2.1 hC (fun h1 I1 f1 C1 => ?_) (fun n0 hx h1 h2 h3 h4 I1 f1 C1 => ?_)
  · refine am_goN vL_law 1 ?_
    refine lrd1 hs hL hi (by decide +kernel) ?_
    refine am_goN vL_law 1 ?_
    refine m_lay hP.1.1 hP.1.2.1 hP.1.2.2.1 (hM.frC f1) (fun _ I2 f2 M2 => ?_) (fun n2 hx2 g1 g2 g3 g4 => absurd ⟨by rw [hx2, zI_toInt (by omega) (by omega)]; omega, by rw [hx2, zI_toInt (by omega) (by omega)]; omega, g3, g4⟩ h1)
    refine am_goN vL_law 1 ?_
    refine And.intro (fun _ => ?_) (fun c => absurd rfl c)
    exact K.go ⟨⟨⟨hP.1.1.le (Nat.zero_le _), hP.1.2⟩, hP.2⟩, C1.frM f2, M2⟩
  · refine am_goN vL_law 1 ?_
    refine lrd1 hs hL hi (by decide +kernel) ?_
    refine am_goN vL_law 1 ?_
    refine m_lay hP.1.1 hP.1.2.1 hP.1.2.2.1 (hM.frC f1) (fun g => absurd ⟨by rw [hx, zI_toInt (by omega) (by omega)]; omega, by rw [hx, zI_toInt (by omega) (by omega)]; omega, h3, h4⟩ g) (fun n2 hx2 g1 g2 g3 g4 I2 f2 M2 => ?_)
    have e2 : n2 = n0 := by
      have e1 := congrArg Int32.toInt (hx.symm.trans hx2)
      rw [zI_toInt (by omega) (by omega), zI_toInt (by omega) (by omega)] at e1
      omega
    subst e2
    refine am_goN vL_law 1 ?_
    refine And.intro (fun _ => ?_) (fun c => absurd rfl c)
    exact K.go ⟨⟨⟨hP.1.1.le (Nat.zero_le _), hP.1.2⟩, hP.2.1, hP.2.2.1, hP.2.2.2.1, by rw [ldOf_len]; exact h2⟩, C1.frM f2, M2⟩
set_option maxRecDepth 100000 in
theorem w_laid (hs : am_scr Γ) (hL : Γ.scr.2.1 ≤ 3072) (hi : i + 6 ≤ Γ.scr.2.1) (hT : TI I R sz bs bd rn ks ml mn es ft nt nk dn made ld) (K : WK Γ Q d k n (zI i)) : am_J Γ mL_law Q (d + 30) (k + 1) (n + 6) 868 (LL7 (zI i) o5 o6) [] I Lg R (GM gc) := by
  obtain ⟨hP, hC, hM⟩ := hT
  refine am_goN vL_law 1 ?_
  refine lrd1 hs hL hi (by decide +kernel) ?_
  refine am_goN vL_law 1 ?_
  refine s_laid hP.2.2.2.2 hC.2.2.2.2.1 ?_
  refine am_goN vL_law 1 ?_
  refine lrd1 hs hL hi (by decide +kernel) ?_
  refine am_goN vL_law 1 ?_
  refine s_mlaid hP.2.2.2.2 hM.2.2.2.2 ?_
  refine am_goN vL_law 1 ?_
  refine And.intro (fun _ => ?_) (fun c => absurd rfl c)
  exact K.go ⟨hP, hC.frM (hM.thr _).1, (hM.thr _).2⟩
set_option maxRecDepth 100000 in
theorem w_worn (hs : am_scr Γ) (hL : Γ.scr.2.1 ≤ 3072) (hi : i + 6 ≤ Γ.scr.2.1) (hT : TI I R sz bs bd rn ks ml mn es ft nt nk dn made ld) (K : WK Γ Q d k n (zI i)) : am_J Γ mL_law Q (d + 30) (k + 1) (n + 6) 893 (LL7 (zI i) o5 o6) [] I Lg R (GM gc) := by
  obtain ⟨hP, hC, hM⟩ := hT
  refine am_goN vL_law 1 ?_
  refine lrd1 hs hL hi (by decide +kernel) ?_
  refine am_goN vL_law 1 ?_
  refine c_worn hP.1.2.2.1 hP.1.1 hC (fun h1 I1 f1 C1 => ?_) (fun r hr hx h1 h2 I1 f1 C1 => ?_)
  · refine am_goN vL_law 1 ?_
    refine lrd1 hs hL hi (by decide +kernel) ?_
    refine am_goN vL_law 1 ?_
    refine m_worn hP.1.2.2.1 hP.1.1 (hM.frC f1) (fun _ I2 f2 M2 => ?_) (fun r hr hx g1 g2 => absurd ⟨g2, r, hr, hx, g1⟩ h1)
    refine am_goN vL_law 1 ?_
    refine And.intro (fun _ => ?_) (fun c => absurd rfl c)
    exact K.go ⟨⟨⟨hP.1.1.le (Nat.zero_le _), hP.1.2⟩, hP.2⟩, C1.frM f2, M2⟩
  · refine am_goN vL_law 1 ?_
    refine lrd1 hs hL hi (by decide +kernel) ?_
    refine am_goN vL_law 1 ?_
    refine m_worn hP.1.2.2.1 hP.1.1 (hM.frC f1) (fun g => absurd ⟨h2, r, hr, hx, h1⟩ g) (fun r2 hr2 hx2 g1 g2 I2 f2 M2 => ?_)
    have e2 := zI_eq4 hr hr2 hx hx2
    subst e2
    refine am_goN vL_law 1 ?_
    refine And.intro (fun _ => ?_) (fun c => absurd rfl c)
    exact K.go ⟨⟨⟨hP.1.1.le (Nat.zero_le _), hP.1.2⟩, hP.2⟩, C1.frM f2, M2⟩
set_option maxRecDepth 100000 in
theorem w_count (hs : am_scr Γ) (hL : Γ.scr.2.1 ≤ 3072) (hi : i + 6 ≤ Γ.scr.2.1) (hT : TI I R sz bs bd rn ks ml mn es ft nt nk dn made ld) (K : WK Γ Q d k n (zI i)) : am_J Γ mL_law Q (d + 30) (k + 1) (n + 6) 918 (LL7 (zI i) o5 o6) [] I Lg R (GM gc) := by
  obtain ⟨hP, hC, hM⟩ := hT
  refine am_goN vL_law 1 ?_
  refine lrd1 hs hL hi (by decide +kernel) ?_
  refine am_goN vL_law 1 ?_
  refine s_count hP.1.2.2.1 hC.1.2.2.1 hC.1.2.1.1 hC.2.1.1.1 hC.2.1.2.1.1 hC.2.1.2.2.1.1 hC.1.1.1 ?_
  refine am_goN vL_law 1 ?_
  refine lrd1 hs hL hi (by decide +kernel) ?_
  refine am_goN vL_law 1 ?_
  refine s_mcount hP.1.2.2.1 (fun r hr => (hM.1.2.2.1.1 r hr).1) hM.1.2.1.1 hM.2.1.1.1 hM.2.1.2.1.1 hM.2.1.2.2.1.1 hM.1.1.1 ?_
  refine am_goN vL_law 1 ?_
  refine And.intro (fun _ => ?_) (fun c => absurd rfl c)
  exact K.go ⟨hP, hC.frM (hM.thr _).1, (hM.thr _).2⟩
end WOPS3

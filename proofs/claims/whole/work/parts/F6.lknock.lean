/-! knock, event and sound in the law. -/
theorem lcmp_self (x : Int64) : (lg_cmp x x).toInt = 0 := by
  unfold lg_cmp
  simp
section WTHR
variable {Γ : AMG} {Q : QQ} {d k n i : Nat} {I : II} {Lg : LJ} {R : RR} {gc : Nat → Nat} {sz : Nat} {bs : Nat → Int} {bd : List BD} {rn : Nat → RUN} {ks : KS} {ml : List MC} {mn : List Int} {es : List EV} {ft : Int} {nt : NT} {nk : KS} {dn : Nat → Int} {made : Bool} {ld : List Int} {o5 o6 : Option AV}
set_option maxRecDepth 100000 in
theorem w_knock (hTK : am_TK Γ) (hs : am_scr Γ) (hL : Γ.scr.2.1 ≤ 3072) (hi : i + 6 ≤ Γ.scr.2.1) (hT : TI I R sz bs bd rn ks ml mn es ft nt nk dn made ld) (K : WK Γ Q d k n (zI i)) : am_J Γ mL_law Q (d + 30) (k + 1) (n + 6) 389 (LL7 (zI i) o5 o6) [] I Lg R (GM gc) := by
  obtain ⟨hP, hC, hM⟩ := hT
  rw [Nat.add_comm k 1, Nat.add_comm n 6]
  refine am_goN vL_law 1 ?_
  refine lrd2 hs hL hi (by decide +kernel) ?_
  refine am_goN vL_law 1 ?_
  refine ar_invSW (M2 := mL_knock) (hh := xhh) (idx := 49) (As := [vR 11 0, vI _, vI _, vR 116 0]) (rest := []) rfl xlc_knock ⟨rfl, by decide, by decide, (show (parseMethodDescriptor mL_knock.2.1.desc).map (fun d => d.parameters.length) = some 4 from by decide), by decide⟩ xll_knock xls_knock (xok_at (i := 101) (by decide +kernel) (by decide +kernel)) (Nat.zero_le _) (by decide +kernel) ?_
  refine s_lknock hTK hP.1.2.2.2 hC.1.2.2.2.1 hC.1.2.2.2.2 (fun h1 => ?_) (fun h1 h2 h3 h4 => ?_)
  · refine am_goN vL_law 2 ?_
    refine fun y5 e5 => ?_
    refine lrd2 hs hL hi (by decide +kernel) ?_
    refine am_goN vL_law 9 ?_
    refine s_mknock hP.1.2.2.2 hM.1.2.2.2.1 hM.1.2.2.2.2 (fun _ => ?_) (fun h1 h2 h3 h4 => by omega)
    refine fun y6 e6 => ?_
    refine s_thrown ?_
    refine And.intro (fun _ => ?_) (fun c => ?_)
    · refine And.intro (fun _ => ?_) (fun c => ?_)
      · exact K _ _ _ _ _ _ _ _ _ _ _ _ _ _ _ _ _ _ _ _ ⟨hP, hC.frM (hM.thr _).1, (hM.thr _).2⟩
      · rw [e5, zI_toInt (by omega) (by omega)] at c
        omega
    · rw [e5, up3_s] at c
      exact absurd rfl c
  · refine am_goN vL_law 2 ?_
    refine fun y5 e5 => ?_
    refine lrd2 hs hL hi (by decide +kernel) ?_
    refine am_goN vL_law 16 ?_
    refine s_mknock hP.1.2.2.2 hM.1.2.2.2.1 hM.1.2.2.2.2 (fun _ => by omega) (fun _ _ _ _ => ?_)
    refine fun y6 e6 => ?_
    refine s_thrown ?_
    refine And.intro (fun _ => ?_) (fun c => ?_)
    · refine And.intro (fun c => ?_) (fun _ => ?_)
      · rw [e5, zI_toInt (by omega) (by omega)] at c
        omega
      · refine And.intro ⟨by decide, by decide⟩ ?_
        refine And.intro (fun _ => ?_) (fun c => ?_)
        · exact K _ _ _ _ _ _ _ _ _ _ _ _ _ _ _ _ _ _ _ _ ⟨hP, hC.frM (hM.thr _).1, (hM.thr _).2⟩
        · rw [e6, show (zI 0).toInt.toNat = 0 from rfl, up3_s] at c
          exact absurd (lcmp_self _) c
    · rw [e5, up3_s] at c
      exact absurd rfl c
set_option maxRecDepth 100000 in
theorem w_event (hTK : am_TK Γ) (hs : am_scr Γ) (hL : Γ.scr.2.1 ≤ 3072) (hi : i + 6 ≤ Γ.scr.2.1) (hT : TI I R sz bs bd rn ks ml mn es ft nt nk dn made ld) (K : WK Γ Q d k n (zI i)) : am_J Γ mL_law Q (d + 30) (k + 1) (n + 6) 569 (LL7 (zI i) o5 o6) [] I Lg R (GM gc) := by
  obtain ⟨hP, hC, hM⟩ := hT
  rw [Nat.add_comm k 1, Nat.add_comm n 6]
  refine am_goN vL_law 1 ?_
  refine lrd2 hs hL hi (by decide +kernel) ?_
  refine am_goN vL_law 1 ?_
  refine ar_invSW (M2 := mL_event) (hh := xhh) (idx := 76) (As := [vR 11 0, vI _, vI _, vR 116 0]) (rest := []) rfl xlc_event ⟨rfl, by decide, by decide, (show (parseMethodDescriptor mL_event.2.1.desc).map (fun d => d.parameters.length) = some 4 from by decide), by decide⟩ xll_event xls_event (xok_at (i := 101) (by decide +kernel) (by decide +kernel)) (Nat.zero_le _) (by decide +kernel) ?_
  refine s_levent (S := (es, false)) hTK hP.2.1.1 hC.2.1.1 hC.2.1.2.2.1 hP.2.2.1.1 (fun h1 => ?_) (fun k0 e0 h1 h2 h3 h4 => ?_)
  · refine am_goN vL_law 2 ?_
    refine fun y5 e5 => ?_
    refine lrd2 hs hL hi (by decide +kernel) ?_
    refine am_goN vL_law 9 ?_
    refine s_mevent hP.2.1.1 hM.2.1.1 hM.2.1.2.2.1 hP.2.2.1.1 (fun _ => ?_) (fun k0 e0 h2 h3 h4 h5 => absurd ?_ h1)
    rotate_left
    · have hlt : k0 < es.length := (List.getElem?_eq_some_iff.mp h3).1
      have h24 := hP.2.2.1.1.1
      dsimp only
      rw [h2, zI_toInt (by omega) (by omega)]
      omega
    refine fun y6 e6 => ?_
    refine s_thrown ?_
    refine And.intro (fun _ => ?_) (fun c => ?_)
    · refine And.intro (fun _ => ?_) (fun c => ?_)
      · exact K _ _ _ _ _ _ _ _ _ _ _ _ _ _ _ _ _ _ _ _ ⟨hP, hC.frM (hM.thr _).1, (hM.thr _).2⟩
      · rw [e5, zI_toInt (by omega) (by omega)] at c
        omega
    · rw [e5, up3_s] at c
      exact absurd rfl c
  · refine am_goN vL_law 2 ?_
    refine fun y5 e5 => ?_
    refine lrd2 hs hL hi (by decide +kernel) ?_
    refine am_goN vL_law 16 ?_
    refine s_mevent hP.2.1.1 hM.2.1.1 hM.2.1.2.2.1 hP.2.2.1.1 (fun hno => absurd ?_ hno) (fun k9 e9 h5 h6 _ _ => ?_)
    · have hlt : k0 < es.length := (List.getElem?_eq_some_iff.mp h2).1
      have h24 := hP.2.2.1.1.1
      rw [h1, zI_toInt (by omega) (by omega)]
      omega
    have hk9 : e9 = e0 := by
      have hlt : k0 < es.length := (List.getElem?_eq_some_iff.mp h2).1
      have hlt2 := (List.getElem?_eq_some_iff.mp h6).1
      have h24 := hP.2.2.1.1.1
      have e1 := congrArg Int32.toInt (h1.symm.trans h5)
      rw [zI_toInt (by omega) (by omega), zI_toInt (by omega) (by omega)] at e1
      have e2 : k0 = k9 := by omega
      rw [e2, h6] at h2
      exact Option.some.inj h2
    subst hk9
    refine fun y6 e6 => ?_
    refine s_thrown ?_
    refine And.intro (fun _ => ?_) (fun c => ?_)
    · refine And.intro (fun c => ?_) (fun _ => ?_)
      · rw [e5, zI_toInt (by omega) (by omega)] at c
        omega
      · refine And.intro ⟨by decide, by decide⟩ ?_
        refine And.intro (fun _ => ?_) (fun c => ?_)
        · exact K _ _ _ _ _ _ _ _ _ _ _ _ _ _ _ _ _ _ _ _ ⟨hP, hC.frM (hM.thr _).1, (hM.thr _).2⟩
        · rw [e6, show (zI 0).toInt.toNat = 0 from rfl, up3_s] at c
          exact absurd (lcmp_self _) c
    · rw [e5, up3_s] at c
      exact absurd rfl c
set_option maxRecDepth 100000 in
theorem w_sound (hTK : am_TK Γ) (hs : am_scr Γ) (hL : Γ.scr.2.1 ≤ 3072) (hi : i + 6 ≤ Γ.scr.2.1) (hT : TI I R sz bs bd rn ks ml mn es ft nt nk dn made ld) (K : WK Γ Q d k n (zI i)) : am_J Γ mL_law Q (d + 30) (k + 1) (n + 6) 650 (LL7 (zI i) o5 o6) [] I Lg R (GM gc) := by
  obtain ⟨hP, hC, hM⟩ := hT
  rw [Nat.add_comm k 1, Nat.add_comm n 6]
  refine am_goN vL_law 1 ?_
  refine lrd2 hs hL hi (by decide +kernel) ?_
  refine am_goN vL_law 1 ?_
  refine ar_invSW (M2 := mL_sound) (hh := xhh) (idx := 83) (As := [vR 11 0, vI _, vI _, vR 116 0]) (rest := []) rfl xlc_sound ⟨rfl, by decide, by decide, (show (parseMethodDescriptor mL_sound.2.1.desc).map (fun d => d.parameters.length) = some 4 from by decide), by decide⟩ xll_sound xls_sound (xok_at (i := 101) (by decide +kernel) (by decide +kernel)) (Nat.zero_le _) (by decide +kernel) ?_
  refine s_lsound hTK hP.2.2.2.1 hC.2.2.1.2.2.2.2.2.1 hC.2.2.1.2.2.2.2.2.2.2 (fun h1 => ?_) (fun h1 h2 h3 h4 => ?_)
  · refine am_goN vL_law 2 ?_
    refine fun y5 e5 => ?_
    refine lrd2 hs hL hi (by decide +kernel) ?_
    refine am_goN vL_law 9 ?_
    refine s_msound hP.2.2.2.1 hM.2.2.1.2.2.2.2.2.1 hM.2.2.1.2.2.2.2.2.2.2 (fun _ => ?_) (fun h1 h2 h3 h4 => by omega)
    refine fun y6 e6 => ?_
    refine s_thrown ?_
    refine And.intro (fun _ => ?_) (fun c => ?_)
    · refine And.intro (fun _ => ?_) (fun c => ?_)
      · exact K _ _ _ _ _ _ _ _ _ _ _ _ _ _ _ _ _ _ _ _ ⟨hP, hC.frM (hM.thr _).1, (hM.thr _).2⟩
      · rw [e5, zI_toInt (by omega) (by omega)] at c
        omega
    · rw [e5, up3_s] at c
      exact absurd rfl c
  · refine am_goN vL_law 2 ?_
    refine fun y5 e5 => ?_
    refine lrd2 hs hL hi (by decide +kernel) ?_
    refine am_goN vL_law 16 ?_
    refine s_msound hP.2.2.2.1 hM.2.2.1.2.2.2.2.2.1 hM.2.2.1.2.2.2.2.2.2.2 (fun _ => by omega) (fun _ _ _ _ => ?_)
    refine fun y6 e6 => ?_
    refine s_thrown ?_
    refine And.intro (fun _ => ?_) (fun c => ?_)
    · refine And.intro (fun c => ?_) (fun _ => ?_)
      · rw [e5, zI_toInt (by omega) (by omega)] at c
        omega
      · refine And.intro ⟨by decide, by decide⟩ ?_
        refine And.intro (fun _ => ?_) (fun c => ?_)
        · exact K _ _ _ _ _ _ _ _ _ _ _ _ _ _ _ _ _ _ _ _ ⟨hP, hC.frM (hM.thr _).1, (hM.thr _).2⟩
        · rw [e6, show (zI 0).toInt.toNat = 0 from rfl, up3_s] at c
          exact absurd (lcmp_self _) c
    · rw [e5, up3_s] at c
      exact absurd rfl c
end WTHR

/-! The law's loop, with what 'made' does as a hypothesis. -/
def WMade (Γ : AMG) : Prop := ∀ (Q : QQ) (d k n i : Nat) (I : II) (Lg : LJ) (R : RR) (gc : Nat → Nat) (sz : Nat) (bs : Nat → Int) (bd : List BD) (rn : Nat → RUN) (ks : KS) (ml : List MC) (mn : List Int) (es : List EV) (ft : Int) (nt : NT) (nk : KS) (dn : Nat → Int) (made : Bool) (ld : List Int) (o5 o6 : Option AV),
  am_scr Γ → Γ.scr.2.1 ≤ 3072 → i + 6 ≤ Γ.scr.2.1 → TI I R sz bs bd rn ks ml mn es ft nt nk dn made ld → WK Γ Q d k n (zI i) → am_J Γ mL_law Q (d + 30) (k + 1) (n + 6) 743 (LL7 (zI i) o5 o6) [] I Lg R (GM gc)
set_option maxRecDepth 100000 in
set_option maxHeartbeats 4000000 in
theorem w_one {Γ : AMG} {Q : QQ} {d k n i : Nat} {I : II} {Lg : LJ} {R : RR} {gc : Nat → Nat} {sz : Nat} {bs : Nat → Int} {bd : List BD} {rn : Nat → RUN} {ks : KS} {ml : List MC} {mn : List Int} {es : List EV} {ft : Int} {nt : NT} {nk : KS} {dn : Nat → Int} {made : Bool} {ld : List Int} {o5 o6 : Option AV}
    (hm : WMade Γ) (hW : SWok Γ) (hK : KWok Γ) (hTK : am_TK Γ) (hs : am_scr Γ) (hL : Γ.scr.2.1 ≤ 3072) (hi : i + 6 ≤ Γ.scr.2.1) (hT : TI I R sz bs bd rn ks ml mn es ft nt nk dn made ld) (K : WK Γ Q d k n (zI i)) : am_J Γ mL_law Q (d + 30) (k + 1) (n + 6) 33 (LL7 (zI i) o5 o6) [] I Lg R (GM gc) := by
  refine am_goN vL_law 2 ?_
  have ei : (zI (i : Int)).toInt = i := zI_toInt (by omega) (by omega)
  refine ar_scrI hs (by omega) (by omega) (by decide +kernel) ?_
  refine am_goN vL_law 3 ?_
  refine And.intro (fun _ => ?_) ⟨fun _ => ?_, fun _ => ?_, fun _ => ?_, fun _ => ?_, fun _ => ?_, fun _ => ?_, fun _ => ?_, fun _ => ?_, fun _ => ?_, fun _ => ?_, fun _ => ?_, fun _ => ?_, fun _ => ?_, fun _ => ?_, fun _ => ?_, fun _ => ?_, fun _ => ?_, fun _ => ?_, fun _ => ?_, fun _ => ?_, fun _ => ?_, fun _ => ?_, trivial⟩
  · exact K.go hT
  · exact w_feed hs hL hi hT K
  · exact w_end hs hL hi hT K
  · exact w_board hs hL hi hT K
  · exact w_run hs hL hi hT K
  · exact w_fall hs hL hi hT K
  · exact w_knock hTK hs hL hi hT K
  · exact w_machine hs hL hi hT K
  · exact w_man hs hL hi hT K
  · exact w_score hW hK hs hL hi hT K
  · exact w_fault hs hL hi hT K
  · exact w_event hTK hs hL hi hT K
  · exact w_night hs hL hi hT K
  · exact w_sound hTK hs hL hi hT K
  · exact w_told hs hL hi hT K
  · exact hm _ _ _ _ _ _ _ _ _ _ _ _ _ _ _ _ _ _ _ _ _ _ _ _ _ hs hL hi hT K
  · exact w_who hs hL hi hT K
  · exact w_balls hs hL hi hT K
  · exact w_fillings hs hL hi hT K
  · exact w_lay hs hL hi hT K
  · exact w_laid hs hL hi hT K
  · exact w_worn hs hL hi hT K
  · exact w_count hs hL hi hT K
set_option maxRecDepth 100000 in
theorem w_loop {Γ : AMG} {Q : QQ} {d : Nat} (hm : WMade Γ) (hW : SWok Γ) (hK : KWok Γ) (hTK : am_TK Γ) (hs : am_scr Γ) (hL : Γ.scr.2.1 ≤ 3072) (hQ : ∀ (I : II) (Lg : LJ) (R : RR) (G : GG), Q (some (vI (zI 1))) I Lg R G) :
    ∀ (m i k n : Nat) (I : II) (Lg : LJ) (R : RR) (gc : Nat → Nat) (sz : Nat) (bs : Nat → Int) (bd : List BD) (rn : Nat → RUN) (ks : KS) (ml : List MC) (mn : List Int) (es : List EV) (ft : Int) (nt : NT) (nk : KS) (dn : Nat → Int) (made : Bool) (ld : List Int) (o5 o6 : Option AV),
      Γ.scr.2.1 < i + 6 * (m + 1) → i ≤ 3072 → m ≤ k → 6 * m ≤ n → TI I R sz bs bd rn ks ml mn es ft nt nk dn made ld → am_J Γ mL_law Q (d + 30) k n 23 (LL7 (zI i) o5 o6) [] I Lg R (GM gc) := by
  intro m
  induction m with
  | zero =>
    intro i k n I Lg R gc sz bs bd rn ks ml mn es ft nt nk dn made ld o5 o6 h1 h2 h3 h4 hT
    refine am_goN vL_law 2 ?_
    refine ar_scrL hs (by decide +kernel) ?_
    refine am_goN vL_law 3 ?_
    refine And.intro (fun _ => ?_) (fun c => ?_)
    · refine am_goN vL_law 2 ?_
      exact ⟨Or.inr rfl, hQ _ _ _ _⟩
    · rw [zI_sub, zI_toInt (by omega) (by omega), zI_toInt (by omega) (by omega)] at c
      omega
  | succ m ih =>
    intro i k n I Lg R gc sz bs bd rn ks ml mn es ft nt nk dn made ld o5 o6 h1 h2 h3 h4 hT
    obtain ⟨k, rfl⟩ : ∃ k', k = k' + 1 := ⟨k - 1, by omega⟩
    obtain ⟨n, rfl⟩ : ∃ n', n = n' + 6 := ⟨n - 6, by omega⟩
    refine am_goN vL_law 2 ?_
    refine ar_scrL hs (by decide +kernel) ?_
    refine am_goN vL_law 3 ?_
    refine And.intro (fun _ => ?_) (fun c => ?_)
    · refine am_goN vL_law 2 ?_
      exact ⟨Or.inr rfl, hQ _ _ _ _⟩
    · rw [zI_sub, zI_toInt (by omega) (by omega), zI_toInt (by omega) (by omega)] at c
      refine w_one hm hW hK hTK hs hL (by omega) hT (fun I Lg R gc sz bs bd rn ks ml mn es ft nt nk dn made ld o5 o6 hT => ?_)
      refine am_go vL_law 2 ?_
      show am_J Γ mL_law Q (d + 30) k n 23 (LL7 (zI i + zI 6) o5 o6) [] I Lg R (GM gc)
      rw [zI_add, show (i : Int) + 6 = ((i + 6 : Nat) : Int) by omega]
      exact ih (i + 6) k n I Lg R gc sz bs bd rn ks ml mn es ft nt nk dn made ld o5 o6 (by omega) (by omega) (by omega) (by omega) hT

/-! What the law reads of the script; one answer compared. -/
abbrev LL7 (x : Int32) (o5 o6 : Option AV) : LL := [some (vR am_cScr 0), some (vR 11 0), some (vR 12 0), some (vR 116 0), some (vI x), o5, o6]
def lrc (pc j : Nat) : Bool := decide (decode mL_law.2.2.1 pc = .ok (.aload_n 0, 1)) && (decide (decode mL_law.2.2.1 (pc + 1) = .ok (.iload 4, 2)) && (decide (decode mL_law.2.2.1 (pc + 3) = .ok (.iconst (j : Int), 1)) && (decide (decode mL_law.2.2.1 (pc + 4) = .ok (.iadd, 1)) && decide (decode mL_law.2.2.1 (pc + 5) = .ok (.iaload, 1)))))
section LRD
variable {Γ : AMG} {Q : QQ} {d k n pc i : Nat} {o5 o6 : Option AV} {st : List AV} {I : II} {Lg : LJ} {R : RR} {G : GG}
theorem am_J.wk {M : MD} {L : LL} {k2 n2 : Nat} (h : am_J Γ M Q d k n pc L st I Lg R G) (hk : k ≤ k2) (hn : n ≤ n2) : am_J Γ M Q d k2 n2 pc L st I Lg R G :=
  fun ρ p e Rm s m args below meth c H locs cells slots Z C h1 h2 h3 h4 hW hl hoL hoS ret ls hL => h ρ p e Rm s m args below meth c H locs cells slots Z C h1 h2 (by omega) (by omega) hW hl hoL hoS (fun ρ' r I' Lg' R' G' H' locs' cells' slots' pc' ls' b1 b2 b3 b4 b5 b6 b7 b8 => ret ρ' r I' Lg' R' G' H' locs' cells' slots' pc' ls' b1 b2 b3 b4 (by omega) (by omega) b7 b8) ls hL
theorem lrd (j : Nat) (hs : am_scr Γ) (hL : Γ.scr.2.1 ≤ 3072) (hij : i + j < Γ.scr.2.1) (hc : lrc pc j = true) (h : am_J Γ mL_law Q d k n (pc + 6) (LL7 (zI i) o5 o6) (vI (Γ.scr.2.2 (i + j)) :: st) I Lg R G) : am_J Γ mL_law Q d k n pc (LL7 (zI i) o5 o6) st I Lg R G := by
  unfold lrc at hc
  simp only [Bool.and_eq_true, decide_eq_true_eq] at hc
  obtain ⟨d0, d1, d2, d3, d4⟩ := hc
  refine ar_aload_n (j := 0) (o := some (am_cScr, 0)) rfl d0 ?_
  refine ar_iload (x := zI i) rfl d1 ?_
  refine ar_iconst d2 ?_
  refine ar_iadd d3 ?_
  have e : (zI i + zI j).toInt = ((i + j : Nat) : Int) := by rw [zI_add, zI_toInt (by omega) (by omega)]; omega
  refine ar_scrI hs (by omega) (by omega) d4 ?_
  rw [e, Int.toNat_natCast]
  exact h
theorem lrd1 (hs : am_scr Γ) (hL : Γ.scr.2.1 ≤ 3072) (hij : i + 6 ≤ Γ.scr.2.1) (hc : lrc pc 1 = true) (h : am_J Γ mL_law Q d k n (pc + 6) (LL7 (zI i) o5 o6) (vI (Γ.scr.2.2 (i + 1)) :: st) I Lg R G) : am_J Γ mL_law Q d k n pc (LL7 (zI i) o5 o6) st I Lg R G := lrd 1 hs hL (by omega) hc h
theorem lrd2 (hs : am_scr Γ) (hL : Γ.scr.2.1 ≤ 3072) (hij : i + 6 ≤ Γ.scr.2.1) (hc : (lrc pc 1 && lrc (pc + 6) 2) = true) (h : am_J Γ mL_law Q d k n (pc + 12) (LL7 (zI i) o5 o6) (vI (Γ.scr.2.2 (i + 2)) :: vI (Γ.scr.2.2 (i + 1)) :: st) I Lg R G) : am_J Γ mL_law Q d k n pc (LL7 (zI i) o5 o6) st I Lg R G := by
  obtain ⟨h1, h2⟩ := Bool.and_eq_true_iff.mp hc
  exact lrd 1 hs hL (by omega) h1 (lrd 2 hs hL (by omega) h2 h)
theorem lrd3 (hs : am_scr Γ) (hL : Γ.scr.2.1 ≤ 3072) (hij : i + 6 ≤ Γ.scr.2.1) (hc : (lrc pc 1 && lrc (pc + 6) 2 && lrc (pc + 12) 3) = true) (h : am_J Γ mL_law Q d k n (pc + 18) (LL7 (zI i) o5 o6) (vI (Γ.scr.2.2 (i + 3)) :: vI (Γ.scr.2.2 (i + 2)) :: vI (Γ.scr.2.2 (i + 1)) :: st) I Lg R G) : am_J Γ mL_law Q d k n pc (LL7 (zI i) o5 o6) st I Lg R G := by
  obtain ⟨h1, h2⟩ := Bool.and_eq_true_iff.mp hc
  exact lrd2 hs hL hij h1 (lrd 3 hs hL (by omega) h2 h)
theorem lrd4 (hs : am_scr Γ) (hL : Γ.scr.2.1 ≤ 3072) (hij : i + 6 ≤ Γ.scr.2.1) (hc : (lrc pc 1 && lrc (pc + 6) 2 && lrc (pc + 12) 3 && lrc (pc + 18) 4) = true) (h : am_J Γ mL_law Q d k n (pc + 24) (LL7 (zI i) o5 o6) (vI (Γ.scr.2.2 (i + 4)) :: vI (Γ.scr.2.2 (i + 3)) :: vI (Γ.scr.2.2 (i + 2)) :: vI (Γ.scr.2.2 (i + 1)) :: st) I Lg R G) : am_J Γ mL_law Q d k n pc (LL7 (zI i) o5 o6) st I Lg R G := by
  obtain ⟨h1, h2⟩ := Bool.and_eq_true_iff.mp hc
  exact lrd3 hs hL hij h1 (lrd 4 hs hL (by omega) h2 h)
theorem lrd5 (hs : am_scr Γ) (hL : Γ.scr.2.1 ≤ 3072) (hij : i + 6 ≤ Γ.scr.2.1) (hc : (lrc pc 1 && lrc (pc + 6) 2 && lrc (pc + 12) 3 && lrc (pc + 18) 4 && lrc (pc + 24) 5) = true) (h : am_J Γ mL_law Q d k n (pc + 30) (LL7 (zI i) o5 o6) (vI (Γ.scr.2.2 (i + 5)) :: vI (Γ.scr.2.2 (i + 4)) :: vI (Γ.scr.2.2 (i + 3)) :: vI (Γ.scr.2.2 (i + 2)) :: vI (Γ.scr.2.2 (i + 1)) :: st) I Lg R G) : am_J Γ mL_law Q d k n pc (LL7 (zI i) o5 o6) st I Lg R G := by
  obtain ⟨h1, h2⟩ := Bool.and_eq_true_iff.mp hc
  exact lrd4 hs hL hij h1 (lrd 5 hs hL (by omega) h2 h)
end LRD
/-- the tied state -/
def TI (I : II) (R : RR) (sz : Nat) (bs : Nat → Int) (bd : List BD) (rn : Nat → RUN) (ks : KS) (ml : List MC) (mn : List Int) (es : List EV) (ft : Int) (nt : NT) (nk : KS) (dn : Nat → Int) (made : Bool) (ld : List Int) : Prop :=
  PI sz bs bd rn ks ml mn es nk ld ∧ CS I R sz bs bd rn ks ml mn es ft nt nk dn ld ∧ MS I sz bs bd rn ks ml mn es ft nt nk dn made ld
/-- what is behind a call of the script -/
def WK (Γ : AMG) (Q : QQ) (d k n : Nat) (x : Int32) : Prop := ∀ (I : II) (Lg : LJ) (R : RR) (gc : Nat → Nat) (sz : Nat) (bs : Nat → Int) (bd : List BD) (rn : Nat → RUN) (ks : KS) (ml : List MC) (mn : List Int) (es : List EV) (ft : Int) (nt : NT) (nk : KS) (dn : Nat → Int) (made : Bool) (ld : List Int) (o5 o6 : Option AV),
  TI I R sz bs bd rn ks ml mn es ft nt nk dn made ld → am_J Γ mL_law Q (d + 30) k n 943 (LL7 x o5 o6) [] I Lg R (GM gc)
section WOPS
variable {Γ : AMG} {Q : QQ} {d k n i : Nat} {I : II} {Lg : LJ} {R : RR} {gc : Nat → Nat} {sz : Nat} {bs : Nat → Int} {bd : List BD} {rn : Nat → RUN} {ks : KS} {ml : List MC} {mn : List Int} {es : List EV} {ft : Int} {nt : NT} {nk : KS} {dn : Nat → Int} {made : Bool} {ld : List Int} {o5 o6 : Option AV}
set_option maxRecDepth 100000 in
theorem w_feed (hs : am_scr Γ) (hL : Γ.scr.2.1 ≤ 3072) (hi : i + 6 ≤ Γ.scr.2.1) (hT : TI I R sz bs bd rn ks ml mn es ft nt nk dn made ld) (K : WK Γ Q d k n (zI i)) : am_J Γ mL_law Q (d + 30) (k + 1) (n + 6) 144 (LL7 (zI i) o5 o6) [] I Lg R (GM gc) := by
  obtain ⟨hP, hC, hM⟩ := hT
  have hb := hP.1.1
  refine am_goN vL_law 1 ?_
  refine lrd5 hs hL hi (by decide +kernel) ?_
  refine am_goN vL_law 1 ?_
  refine c_feed hb hC (fun h1 => ?_) (fun h1 I1 f1 C1 => ?_)
  · refine am_goN vL_law 1 ?_
    refine lrd5 hs hL hi (by decide +kernel) ?_
    refine am_goN vL_law 1 ?_
    refine m_feed hb hM (fun h2 I2 f2 M2 => ?_) (fun h2 => by omega)
    refine am_goN vL_law 1 ?_
    refine And.intro (fun _ => ?_) (fun c => absurd rfl c)
    exact (K _ _ _ _ _ _ _ _ _ _ _ _ _ _ _ _ _ _ _ _ ⟨hP, hC.frM f2, M2⟩).wk (by omega) (by omega)
  · refine am_goN vL_law 1 ?_
    refine lrd5 hs hL hi (by decide +kernel) ?_
    refine am_goN vL_law 1 ?_
    refine m_feed hb (hM.frC f1) (fun h2 => by omega) (fun h2 I2 f2 M2 => ?_)
    refine am_goN vL_law 1 ?_
    refine And.intro (fun _ => ?_) (fun c => absurd rfl c)
    exact (K _ _ _ _ _ _ _ _ _ _ _ _ _ _ _ _ _ _ _ _ ⟨⟨⟨fbs_ok hb h1, hP.1.2⟩, hP.2⟩, C1.frM f2, M2⟩).wk (by omega) (by omega)
end WOPS

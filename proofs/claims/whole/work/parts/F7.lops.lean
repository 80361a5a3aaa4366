/-! The law's other calls. -/
theorem BSsok.le {sz n : Nat} {bs : Nat → Int} (h : BSsok sz bs) (hn : n ≤ sz) : BSsok n bs := ⟨Nat.le_trans hn h.1, h.2⟩
theorem rnOf_ok {sz : Nat} {bs : Nat → Int} {bd : List BD} (hb : BSsok sz bs) (hbd : BDsok bd) (h : runOk sz bs bd.length) : RUNok (rnOf bd bs (sz / 3)) := by
  refine ⟨by rw [rnOf_len]; exact h.2.2.1, fun p e he => ?_⟩
  have hp : p < sz / 3 := by have := (List.getElem?_eq_some_iff.mp he).1; rwa [rnOf_len] at this
  rw [rnOf_get hp] at he
  have he := (Option.some.inj he).symm
  subst he
  obtain ⟨h1, h2, h3⟩ := h.2.2.2 p hp
  rw [rnOf_len]
  exact ⟨hbd.2 _ _ (bdA_get (hb.2 _).1 h1), h2, h3⟩
theorem RNSok.set {rn : Nat → RUN} {r : Nat} {x : RUN} (h : RNSok rn) (hx : RUNok x) : RNSok (rnSet rn r x) := fun q hq => by
  unfold rnSet
  split
  · exact hx
  · exact h q hq
theorem HDok.set {rn : Nat → RUN} {r : Nat} {x : RUN} {ml : List MC} (h : HDok rn ml) (hx : 0 < x.length) : HDok (rnSet rn r x) ml := fun k e he h0 => by
  unfold rnSet
  split
  · exact hx
  · exact h k e he h0
theorem mc_app {ml : List MC} {x e : MC} {k : Nat} (h : (ml ++ [x])[k]? = some e) : (k = ml.length ∧ e = x) ∨ ml[k]? = some e := by
  rcases app_get h with ⟨h1, h2⟩ | ⟨_, h⟩
  · exact Or.inl ⟨h1, h2⟩
  · exact Or.inr h
theorem PI.mach {rn : Nat → RUN} {ml : List MC} {es : List EV} {x1 x2 x3 x4 : Int32} (hrn : RNSok rn) (hl : MCsok ml) (hd : HDok rn ml) (he : EVsok ml es) (he2 : EVsok2 ml es) (h12 : ml.length < 12) (h1 : 0 ≤ x1.toInt ∧ x1.toInt ≤ 4 ∧ 0 ≤ x2.toInt ∧ x2.toInt ≤ 99) (h2 : standOk rn x1.toInt x3.toInt x4.toInt) :
    MCsok (ml ++ [(x1.toInt, x2.toInt, x3.toInt, x4.toInt)]) ∧ HDok rn (ml ++ [(x1.toInt, x2.toInt, x3.toInt, x4.toInt)]) ∧ EVsok (ml ++ [(x1.toInt, x2.toInt, x3.toInt, x4.toInt)]) es ∧ EVsok2 (ml ++ [(x1.toInt, x2.toInt, x3.toInt, x4.toInt)]) es := by
  have hmof : ∀ m : Int, 0 ≤ m → m < ml.length → mof (ml ++ [(x1.toInt, x2.toInt, x3.toInt, x4.toInt)]) m = mof ml m := fun m h0 hm => by
    unfold mof
    rw [List.getElem?_append_left (by omega)]
  obtain ⟨h2a, h2b, h2c⟩ := h2
  refine ⟨⟨by rw [List.length_append]; exact h12, fun k e hk => ?_⟩, fun k e hk h0 => ?_, ⟨he.1, fun k e hk => ?_⟩, fun k e hk => ?_⟩
  · rcases mc_app hk with ⟨_, rfl⟩ | hk
    · have b3 := x3.toInt_lt
      have b4 := x4.toInt_lt
      have c3 := x3.le_toInt
      have c4 := x4.le_toInt
      refine ⟨h1.1, h1.2.1, h1.2.2.1, h1.2.2.2, ⟨by show _ ≤ x3.toInt; omega, by show x3.toInt < _; omega⟩, ⟨by show _ ≤ x4.toInt; omega, by show x4.toInt < _; omega⟩, h2c, fun q => ?_, fun q => ?_⟩
      · rcases q with q | q
        · obtain ⟨r, g1, g2, -⟩ := h2a q
          dsimp only
          omega
        · obtain ⟨r, g1, g2, -⟩ := h2b q
          dsimp only
          omega
      · obtain ⟨r, g1, g2, g3, g4⟩ := h2b q
        have := (hrn r g1).1
        dsimp only
        omega
    · exact hl.2 k e hk
  · rcases mc_app hk with ⟨_, rfl⟩ | hk
    · obtain ⟨r, g1, g2, g3⟩ := h2a h0
      dsimp only
      rw [g2, Int.toNat_natCast]
      exact g3
    · exact hd k e hk h0
  · obtain ⟨a1, a2, a3, a4, a5, a6⟩ := he.2 k e hk
    exact ⟨a1, a2, a3, by rw [List.length_append]; omega, a5, a6⟩
  · obtain ⟨a1, a2, a3, a4, a5, a6⟩ := he.2 k e hk
    have := he2 k e hk
    unfold EVok2 at this ⊢
    rw [hmof _ a3 a4]
    exact this
theorem MNsok.app {mn : List Int} {x : Int} (h : MNsok mn) (h4 : mn.length < 4) (h0 : 0 ≤ x) (h1 : x ≤ 99) : MNsok (mn ++ [x]) := by
  refine ⟨by rw [List.length_append]; exact h4, fun k y hk => ?_⟩
  rcases app_get hk with ⟨_, rfl⟩ | ⟨_, hk⟩
  · exact ⟨h0, h1⟩
  · exact h.2 k y hk
section WOPS2
variable {Γ : AMG} {Q : QQ} {d k n i : Nat} {I : II} {Lg : LJ} {R : RR} {gc : Nat → Nat} {sz : Nat} {bs : Nat → Int} {bd : List BD} {rn : Nat → RUN} {ks : KS} {ml : List MC} {mn : List Int} {es : List EV} {ft : Int} {nt : NT} {nk : KS} {dn : Nat → Int} {made : Bool} {ld : List Int} {o5 o6 : Option AV}
theorem WK.go {x : Int32} {I : II} {Lg : LJ} {R : RR} {gc : Nat → Nat} (K : WK Γ Q d k n x) (h : TI I R sz bs bd rn ks ml mn es ft nt nk dn made ld) : am_J Γ mL_law Q (d + 30) (k + 1) (n + 6) 943 (LL7 x o5 o6) [] I Lg R (GM gc) := (K _ _ _ _ _ _ _ _ _ _ _ _ _ _ _ _ _ _ _ _ h).wk (by omega) (by omega)
set_option maxRecDepth 100000 in
theorem w_end (hs : am_scr Γ) (hL : Γ.scr.2.1 ≤ 3072) (hi : i + 6 ≤ Γ.scr.2.1) (hT : TI I R sz bs bd rn ks ml mn es ft nt nk dn made ld) (K : WK Γ Q d k n (zI i)) : am_J Γ mL_law Q (d + 30) (k + 1) (n + 6) 217 (LL7 (zI i) o5 o6) [] I Lg R (GM gc) := by
  obtain ⟨hP, hC, hM⟩ := hT
  have hb := hP.1.1
  have h640 := hb.1
  refine am_goN vL_law 1 ?_
  refine lrd1 hs hL hi (by decide +kernel) ?_
  refine am_goN vL_law 1 ?_
  refine c_end hb hC (fun h1 => ?_) (fun n0 h1 hx I1 f1 C1 => ?_)
  · refine am_goN vL_law 1 ?_
    refine lrd1 hs hL hi (by decide +kernel) ?_
    refine am_goN vL_law 1 ?_
    refine m_end hb hM (fun h2 I2 f2 M2 => ?_) (fun n2 h2 hx => absurd ?_ h1)
    · refine am_goN vL_law 1 ?_
      refine And.intro (fun _ => ?_) (fun c => absurd rfl c)
      exact K.go ⟨hP, hC.frM f2, M2⟩
    · rw [hx, zI_toInt (by omega) (by omega)]
      omega
  · refine am_goN vL_law 1 ?_
    refine lrd1 hs hL hi (by decide +kernel) ?_
    refine am_goN vL_law 1 ?_
    refine m_end hb (hM.frC f1) (fun h2 => absurd ?_ h2) (fun n2 h2 hx2 I2 f2 M2 => ?_)
    · rw [hx, zI_toInt (by omega) (by omega)]
      omega
    · have e2 : n2 = n0 := by
        have e1 := congrArg Int32.toInt (hx.symm.trans hx2)
        rw [zI_toInt (by omega) (by omega), zI_toInt (by omega) (by omega)] at e1
        omega
      subst e2
      refine am_goN vL_law 1 ?_
      refine And.intro (fun _ => ?_) (fun c => absurd rfl c)
      exact K.go ⟨⟨⟨hb.le h1, hP.1.2⟩, hP.2⟩, C1.frM f2, M2⟩
set_option maxRecDepth 100000 in
theorem w_board (hs : am_scr Γ) (hL : Γ.scr.2.1 ≤ 3072) (hi : i + 6 ≤ Γ.scr.2.1) (hT : TI I R sz bs bd rn ks ml mn es ft nt nk dn made ld) (K : WK Γ Q d k n (zI i)) : am_J Γ mL_law Q (d + 30) (k + 1) (n + 6) 242 (LL7 (zI i) o5 o6) [] I Lg R (GM gc) := by
  obtain ⟨hP, hC, hM⟩ := hT
  refine am_goN vL_law 1 ?_
  refine lrd5 hs hL hi (by decide +kernel) ?_
  refine am_goN vL_law 1 ?_
  refine c_board hP.1.2.1 hP.1.2.2.1 hC (fun h1 => ?_) (fun h1 h2 I1 R1 gc1 f1 C1 => ?_)
  · refine am_goN vL_law 1 ?_
    refine lrd5 hs hL hi (by decide +kernel) ?_
    refine am_goN vL_law 1 ?_
    refine m_board hP.1.2.1 hP.1.2.2.1 hM (fun h2 I2 f2 M2 => ?_) (fun h2 h3 => absurd h1 (fun z => z.elim (fun z => by omega) (fun z => z h3)))
    refine am_goN vL_law 1 ?_
    refine And.intro (fun _ => ?_) (fun c => absurd rfl c)
    exact (K _ _ _ _ _ _ _ _ _ _ _ _ _ _ _ _ _ _ _ _ ⟨hP, hC.frM f2, M2⟩).wk (k2 := k) (n2 := n + 1) (by omega) (by omega)
  · refine am_goN vL_law 1 ?_
    refine lrd5 hs hL hi (by decide +kernel) ?_
    refine am_goN vL_law 1 ?_
    refine m_board hP.1.2.1 hP.1.2.2.1 (hM.frC f1) (fun h3 => absurd h3 (fun z => z.elim (fun z => by omega) (fun z => z h2))) (fun h3 h4 I2 f2 M2 => ?_)
    refine am_goN vL_law 1 ?_
    refine And.intro (fun _ => ?_) (fun c => absurd rfl c)
    exact (K _ _ _ _ _ _ _ _ _ _ _ _ _ _ _ _ _ _ _ _ ⟨⟨⟨hP.1.1, hP.1.2.1.app h1 (bdOf_ok h2), hP.1.2.2⟩, hP.2⟩, C1.frM f2, M2⟩).wk (k2 := k) (n2 := n + 1) (by omega) (by omega)
set_option maxRecDepth 100000 in
theorem w_run (hs : am_scr Γ) (hL : Γ.scr.2.1 ≤ 3072) (hi : i + 6 ≤ Γ.scr.2.1) (hT : TI I R sz bs bd rn ks ml mn es ft nt nk dn made ld) (K : WK Γ Q d k n (zI i)) : am_J Γ mL_law Q (d + 30) (k + 1) (n + 6) 315 (LL7 (zI i) o5 o6) [] I Lg R (GM gc) := by
  obtain ⟨hP, hC, hM⟩ := hT
  have hb := hP.1.1
  refine am_goN vL_law 1 ?_
  refine lrd1 hs hL hi (by decide +kernel) ?_
  refine am_goN vL_law 1 ?_
  refine c_run hb hP.1.2.1 hC (fun r hr hx hok I1 R1 f1 C1 => ?_) (fun h1 I1 f1 C1 => ?_)
  · refine am_goN vL_law 1 ?_
    refine lrd1 hs hL hi (by decide +kernel) ?_
    refine am_goN vL_law 1 ?_
    refine m_run hb hP.1.2.1 hP.1.2.2.1 (hM.frC f1) (fun r2 hr2 hx2 _ I2 f2 M2 => ?_) (fun h2 => ?_)
    · have e2 : r2 = r := by
        have e1 := congrArg Int32.toInt (hx.symm.trans hx2)
        rw [zI_toInt (by omega) (by omega), zI_toInt (by omega) (by omega)] at e1
        omega
      subst e2
      refine am_goN vL_law 1 ?_
      refine And.intro (fun _ => ?_) (fun c => absurd rfl c)
      exact K.go ⟨⟨⟨hb.le (Nat.zero_le _), hP.1.2.1, hP.1.2.2.1.set (rnOf_ok hb hP.1.2.1 hok), hP.1.2.2.2⟩, ⟨hP.2.1.1, hP.2.1.2.1.set (by rw [rnOf_len]; exact hok.2.1), hP.2.1.2.2⟩, hP.2.2⟩, C1.frM f2, M2⟩
    · rcases h2 with h2 | h2
      · rw [hx, zI_toInt (by omega) (by omega)] at h2
        omega
      · exact absurd hok h2
  · refine am_goN vL_law 1 ?_
    refine lrd1 hs hL hi (by decide +kernel) ?_
    refine am_goN vL_law 1 ?_
    refine m_run hb hP.1.2.1 hP.1.2.2.1 (hM.frC f1) (fun r2 hr2 hx2 hok I2 f2 M2 => ?_) (fun h2 I2 f2 M2 => ?_)
    · rcases h1 with h1 | h1
      · rw [hx2, zI_toInt (by omega) (by omega)] at h1
        omega
      · exact absurd hok h1
    · refine am_goN vL_law 1 ?_
      refine And.intro (fun _ => ?_) (fun c => absurd rfl c)
      exact K.go ⟨⟨⟨hb.le (Nat.zero_le _), hP.1.2⟩, hP.2⟩, C1.frM f2, M2⟩
set_option maxRecDepth 100000 in
theorem w_fall (hs : am_scr Γ) (hL : Γ.scr.2.1 ≤ 3072) (hi : i + 6 ≤ Γ.scr.2.1) (hT : TI I R sz bs bd rn ks ml mn es ft nt nk dn made ld) (K : WK Γ Q d k n (zI i)) : am_J Γ mL_law Q (d + 30) (k + 1) (n + 6) 340 (LL7 (zI i) o5 o6) [] I Lg R (GM gc) := by
  obtain ⟨hP, hC, hM⟩ := hT
  have hrn := hP.1.2.2.1
  refine am_goN vL_law 1 ?_
  refine lrd3 hs hL hi (by decide +kernel) ?_
  refine am_goN vL_law 1 ?_
  refine c_fall hrn hC (fun h1 => ?_) (fun r hr hx h1 h2 h3 I1 f1 C1 => ?_)
  · refine am_goN vL_law 1 ?_
    refine lrd3 hs hL hi (by decide +kernel) ?_
    refine am_goN vL_law 1 ?_
    refine m_fall hrn hM (fun _ I2 f2 M2 => ?_) (fun r hr hx g1 g2 g3 => absurd ⟨r, hr, hx, g1, g2, g3⟩ h1)
    refine am_goN vL_law 1 ?_
    refine And.intro (fun _ => ?_) (fun c => absurd rfl c)
    exact K.go ⟨hP, hC.frM f2, M2⟩
  · refine am_goN vL_law 1 ?_
    refine lrd3 hs hL hi (by decide +kernel) ?_
    refine am_goN vL_law 1 ?_
    refine m_fall hrn (hM.frC f1) (fun h2 => absurd ⟨r, hr, hx, h1, by assumption, by assumption⟩ h2) (fun r2 hr2 hx2 g1 g2 g3 I2 f2 M2 => ?_)
    have e2 : r2 = r := by
      have e1 := congrArg Int32.toInt (hx.symm.trans hx2)
      rw [zI_toInt (by omega) (by omega), zI_toInt (by omega) (by omega)] at e1
      omega
    subst e2
    refine am_goN vL_law 1 ?_
    refine And.intro (fun _ => ?_) (fun c => absurd rfl c)
    have hks := (foll_ok (g := Γ.scr.2.2 (i + 2)) (hrn r2 hr) nols_ok 2000 1 FS0 (Int.le_refl 1) (FS0_ok (hrn r2 hr) h1)).2.1
    exact K.go ⟨⟨⟨hP.1.1, hP.1.2.1, hrn, hks⟩, hP.2⟩, C1.frM f2, M2⟩
set_option maxRecDepth 100000 in
theorem w_machine (hs : am_scr Γ) (hL : Γ.scr.2.1 ≤ 3072) (hi : i + 6 ≤ Γ.scr.2.1) (hT : TI I R sz bs bd rn ks ml mn es ft nt nk dn made ld) (K : WK Γ Q d k n (zI i)) : am_J Γ mL_law Q (d + 30) (k + 1) (n + 6) 457 (LL7 (zI i) o5 o6) [] I Lg R (GM gc) := by
  obtain ⟨hP, hC, hM⟩ := hT
  have hrn := hP.1.2.2.1
  have hl := hP.2.1.1.1
  refine am_goN vL_law 1 ?_
  refine lrd4 hs hL hi (by decide +kernel) ?_
  refine am_goN vL_law 1 ?_
  refine c_machine hrn hl hC (fun h1 => ?_) (fun h1 h2 => ?_) (fun h1 h2 h3 => ?_) (fun h1 h2 h3 I1 f1 C1 => ?_)
  all_goals refine am_goN vL_law 1 ?_
  all_goals refine lrd4 hs hL hi (by decide +kernel) ?_
  all_goals refine am_goN vL_law 1 ?_
  · refine m_machine hrn hl hM (fun _ I2 f2 M2 => ?_) (fun g1 => by omega) (fun g1 => by omega) (fun g1 => by omega)
    refine am_goN vL_law 1 ?_
    refine And.intro (fun _ => ?_) (fun c => absurd rfl c)
    exact K.go ⟨hP, hC.frM f2, M2⟩
  · refine m_machine hrn hl hM (fun g1 => by omega) (fun _ _ I2 f2 M2 => ?_) (fun _ g1 => absurd g1 h2) (fun _ g1 => absurd g1 h2)
    refine am_goN vL_law 1 ?_
    refine And.intro (fun _ => ?_) (fun c => absurd rfl c)
    exact K.go ⟨hP, hC.frM f2, M2⟩
  · refine m_machine hrn hl hM (fun g1 => by omega) (fun _ g1 => absurd h2 g1) (fun _ _ _ I2 f2 M2 => ?_) (fun _ _ g1 => absurd g1 h3)
    refine am_goN vL_law 1 ?_
    refine And.intro (fun _ => ?_) (fun c => absurd rfl c)
    exact K.go ⟨hP, hC.frM f2, M2⟩
  · refine m_machine hrn hl (hM.frC f1) (fun g1 => by omega) (fun _ g1 => absurd h2 g1) (fun _ _ g1 => absurd h3 g1) (fun _ _ _ I2 f2 M2 => ?_)
    refine am_goN vL_law 1 ?_
    refine And.intro (fun _ => ?_) (fun c => absurd rfl c)
    obtain ⟨p1, p2, p3, p4⟩ := PI.mach hrn hP.2.1.1 hP.2.1.2.1 hP.2.2.1.1 hP.2.2.1.2.1 h1 h2 h3
    exact K.go ⟨⟨hP.1, ⟨p1, p2, hP.2.1.2.2⟩, ⟨p3, p4, hP.2.2.1.2.2⟩, hP.2.2.2⟩, C1.frM f2, M2⟩
set_option maxRecDepth 100000 in
theorem w_man (hs : am_scr Γ) (hL : Γ.scr.2.1 ≤ 3072) (hi : i + 6 ≤ Γ.scr.2.1) (hT : TI I R sz bs bd rn ks ml mn es ft nt nk dn made ld) (K : WK Γ Q d k n (zI i)) : am_J Γ mL_law Q (d + 30) (k + 1) (n + 6) 518 (LL7 (zI i) o5 o6) [] I Lg R (GM gc) := by
  obtain ⟨hP, hC, hM⟩ := hT
  have hmn := hP.2.1.2.2
  refine am_goN vL_law 1 ?_
  refine lrd1 hs hL hi (by decide +kernel) ?_
  refine am_goN vL_law 1 ?_
  refine c_man hmn hC (fun h1 => ?_) (fun h1 h2 h3 I1 f1 C1 => ?_)
  all_goals refine am_goN vL_law 1 ?_
  all_goals refine lrd1 hs hL hi (by decide +kernel) ?_
  all_goals refine am_goN vL_law 1 ?_
  · refine m_man hmn hM (fun _ I2 f2 M2 => ?_) (fun g1 g2 g3 => absurd ⟨g1, g2, g3⟩ h1)
    refine am_goN vL_law 1 ?_
    refine And.intro (fun _ => ?_) (fun c => absurd rfl c)
    exact K.go ⟨hP, hC.frM f2, M2⟩
  · refine m_man hmn (hM.frC f1) (fun g1 => absurd ⟨h1, h2, h3⟩ g1) (fun _ _ _ I2 f2 M2 => ?_)
    refine am_goN vL_law 1 ?_
    refine And.intro (fun _ => ?_) (fun c => absurd rfl c)
    exact K.go ⟨⟨hP.1, ⟨hP.2.1.1, hP.2.1.2.1, hmn.app h3 h1 h2⟩, hP.2.2⟩, C1.frM f2, M2⟩
end WOPS2

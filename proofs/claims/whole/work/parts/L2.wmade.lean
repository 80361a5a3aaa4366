/-! made in the law. -/
section WMADE
variable {Γ : AMG} {Q : QQ} {d : Nat} {I : II} {Lg : LJ} {R : RR} {gc : Nat → Nat} {sz : Nat} {bs : Nat → Int} {bd : List BD} {rn : Nat → RUN} {ks : KS} {ml : List MC} {mn : List Int} {es : List EV} {ft : Int} {nt : NT} {nk : KS} {dn : Nat → Int} {made : Bool} {ld : List Int}
/-- who does which, afterwards -/
def dnA (ml : List MC) (es : List EV) (mn : List Int) (dn : Nat → Int) : Nat → Int := fun e => ((mD mn.length (mwt ml es) (mmy ml es mn) es.length 0 (fun m => m))[e]?).getD (dn e)
def mdA (ml : List MC) (es : List EV) (mn : List Int) : Int := mV mn.length (mwt ml es) (mmy ml es mn) es.length 0 (fun m => m)
theorem mD_at (ml : List MC) (es : List EV) (mn : List Int) {e : Nat} (h : e < es.length) : ∃ x, (mD mn.length (mwt ml es) (mmy ml es mn) es.length 0 (fun m => m))[e]? = some x := by
  have := mD_len (nm := mn.length) (w := mwt ml es) (my := mmy ml es mn) es.length 0 (fun m => m)
  exact ⟨_, List.getElem?_eq_getElem (by omega)⟩
theorem mD_off (ml : List MC) (es : List EV) (mn : List Int) {e : Nat} (h : es.length ≤ e) : (mD mn.length (mwt ml es) (mmy ml es mn) es.length 0 (fun m => m))[e]? = none := by
  have := mD_len (nm := mn.length) (w := mwt ml es) (my := mmy ml es mn) es.length 0 (fun m => m)
  exact List.getElem?_eq_none (by omega)
set_option maxRecDepth 100000 in
theorem c_made (hl : MCsok ml) (hes : EVsok ml es) (hes2 : EVsok2 ml es) (hsr : EVsrt es) (hmn : MNsok mn) (hC : CS I R sz bs bd rn ks ml mn es ft nt nk dn ld)
    (hy : ∀ I' : II, FrI nM I I' → CS I' R sz bs bd rn ks ml mn es ft nt nk (dnA ml es mn dn) ld → Q (some (vI (zI (mdA ml es mn)))) I' Lg R (GM gc)) :
    am_Sp Γ (d + 6) 0 0 mX11_made [vR 11 0] I Lg R (GM gc) Q := by
  obtain ⟨⟨t, s, r, k⟩, ⟨m, n, p, ft⟩, nt, dd, la⟩ := hC
  refine s_made hl m p hes hes2 hsr hmn n (fun I' f d1 d2 => ?_)
  refine hy I' (f.mono (V0_nM (by decide))) ⟨⟨t.fr f rfl rfl, s.fr f rfl (rv_out (by decide)), r.fr f (rv_out (by decide)), k.fr f (by decide)⟩, ⟨m.fr f (by decide), n.fr f (by decide), p.fr f (by decide), by rw [f _ _ rfl]; exact ft⟩, nt.fr f (by decide), fun e he => ?_, la.fr f (by decide)⟩
  unfold dnA
  by_cases g : e < es.length
  · obtain ⟨x, hx⟩ := mD_at ml es mn g
    rw [hx]
    exact d1 e x hx
  · rw [mD_off ml es mn (by omega), d2 e (by omega)]
    exact dd e he
set_option maxRecDepth 100000 in
theorem m_made (hl : MCsok ml) (hes : EVsok ml es) (hes2 : EVsok2 ml es) (hsr : EVsrt es) (hmn : MNsok mn) (hC : MS I sz bs bd rn ks ml mn es ft nt nk dn made ld)
    (hy : ∀ I' : II, FrI yM I I' → MS I' sz bs bd rn ks ml mn es ft nt nk (dnA ml es mn dn) true ld → Q (some (vI (zI (mdA ml es mn)))) I' Lg R (GM gc)) :
    am_Sp Γ (d + 4) 0 0 mX12_made [vR 12 0] I Lg R (GM gc) Q := by
  obtain ⟨⟨t, s, r, k⟩, ⟨m, n, p, ft⟩, nt, dd, la⟩ := hC
  refine s_mmade ⟨hl, hes, hes2, hsr, hmn⟩ m p n (fun I' f d1 d2 => ?_)
  refine hy I' (f.mono (V0_yM (by decide))) ⟨⟨t.fr f rfl rfl, s.fr f (by decide), r.fr f (by decide), k.fr f (by decide)⟩, ⟨m.fr f (by decide), n.fr f (by decide), p.fr f (by decide), by rw [f _ _ rfl]; exact ft⟩, nt.fr f (by decide), ⟨d1, fun _ e he => ?_, fun h => (by cases h)⟩, la.fr f (by decide)⟩
  unfold dnA
  obtain ⟨x, hx⟩ := mD_at ml es mn he
  rw [hx]
  exact d2 e x hx
end WMADE
set_option maxRecDepth 100000 in
theorem w_made {Γ : AMG} : WMade Γ := by
  intro Q d k n i I Lg R gc sz bs bd rn ks ml mn es ft nt nk dn made ld o5 o6 hs hL hi hT K
  obtain ⟨hP, hC, hM⟩ := hT
  refine am_goN vL_law 2 ?_
  refine c_made hP.2.1.1 hP.2.2.1.1 hP.2.2.1.2.1 hP.2.2.1.2.2 hP.2.1.2.2 hC (fun I1 f1 C1 => ?_)
  refine am_goN vL_law 2 ?_
  refine m_made hP.2.1.1 hP.2.2.1.1 hP.2.2.1.2.1 hP.2.2.1.2.2 hP.2.1.2.2 (hM.frC f1) (fun I2 f2 M2 => ?_)
  refine am_goN vL_law 1 ?_
  refine And.intro (fun _ => ?_) (fun c => absurd rfl c)
  exact K.go ⟨hP, C1.frM f2, M2⟩

/-! The class's calls over the tied state, further. -/
theorem rv_out {l : List Nat} (h : rvars.all (fun v => !l.elem v) = true) : ∀ v ∈ rvars, ∀ i, V0 l v i = false := fun v hv i => V0_out h v hv
section COPS2
variable {Γ : AMG} {Q : QQ} {d : Nat} {I : II} {Lg : LJ} {R : RR} {gc : Nat → Nat} {sz : Nat} {bs : Nat → Int} {bd : List BD} {rn : Nat → RUN} {ks : KS} {ml : List MC} {mn : List Int} {es : List EV} {ft : Int} {nt : NT} {nk : KS} {dn : Nat → Int} {ld : List Int}
set_option maxRecDepth 100000 in
theorem c_fall {x1 g x3 : Int32} (hrn : RNSok rn) (hC : CS I R sz bs bd rn ks ml mn es ft nt nk dn ld)
    (hn : (¬ ∃ r : Nat, r < 4 ∧ x1 = zI r ∧ 0 < (rn r).length ∧ 0 ≤ x3.toInt ∧ x3.toInt ≤ 3) → Q (some (vI (zI (-2)))) I Lg R (GM gc))
    (hy : ∀ r : Nat, r < 4 → x1 = zI r → 0 < (rn r).length → 0 ≤ x3.toInt → x3.toInt ≤ 3 → ∀ I' : II, FrI nM I I' → CS I' R sz bs bd rn (fall9 (rn r) g nols).ks ml mn es ft nt nk dn ld → Q (some (vI (zI (fAns (fall9 (rn r) g nols) x3.toInt)))) I' Lg R (GM gc)) :
    am_Sp Γ (d + 3) 0 0 mX11_fall [vR 11 0, vI x1, vI g, vI x3] I Lg R (GM gc) Q := by
  obtain ⟨⟨t, s, r, k⟩, ⟨m, n, p, ft⟩, nt, d, la⟩ := hC
  refine s_fall hrn r hn (fun r0 hr0 hx h1 h2 h3 I' f0 cf => ?_)
  have f : FrI (V0 (fvars ++ (0 :: bvars))) I I' := f0.mono (fun v i hv => by
    obtain ⟨h1, h2⟩ := V0_app hv
    unfold VF
    rw [V1_of0 h1, V1_of0 h2]
    rfl)
  obtain ⟨-, -, -, c4, c5⟩ := cf
  exact hy r0 hr0 hx h1 h2 h3 I' (f.mono (V0_nM (by decide))) ⟨⟨t.fr f rfl rfl, s.fr f rfl (rv_out (by decide)), r.fr f (rv_out (by decide)), c4, c5⟩, ⟨m.fr f (by decide), n.fr f (by decide), p.fr f (by decide), by rw [f _ _ rfl]; exact ft⟩, nt.fr f (by decide), d.fr f rfl, la.fr f (by decide)⟩
set_option maxRecDepth 100000 in
theorem c_machine {x1 x2 x3 x4 : Int32} (hrn : RNSok rn) (hl : ml.length ≤ 12) (hC : CS I R sz bs bd rn ks ml mn es ft nt nk dn ld)
    (h2 : ml.length = 12 → Q (some (vI (zI (-2)))) I Lg R (GM gc))
    (h3 : ml.length < 12 → ¬ (0 ≤ x1.toInt ∧ x1.toInt ≤ 4 ∧ 0 ≤ x2.toInt ∧ x2.toInt ≤ 99) → Q (some (vI (zI (-3)))) I Lg R (GM gc))
    (h4 : ml.length < 12 → (0 ≤ x1.toInt ∧ x1.toInt ≤ 4 ∧ 0 ≤ x2.toInt ∧ x2.toInt ≤ 99) → ¬ standOk rn x1.toInt x3.toInt x4.toInt → Q (some (vI (zI (-4)))) I Lg R (GM gc))
    (hy : ml.length < 12 → (0 ≤ x1.toInt ∧ x1.toInt ≤ 4 ∧ 0 ≤ x2.toInt ∧ x2.toInt ≤ 99) → standOk rn x1.toInt x3.toInt x4.toInt → ∀ I' : II, FrI nM I I' → CS I' R sz bs bd rn ks (ml ++ [(x1.toInt, x2.toInt, x3.toInt, x4.toInt)]) mn es ft nt nk dn ld → Q (some (vI (zI ml.length))) I' Lg R (GM gc)) :
    am_Sp Γ (d + 3) 0 0 mX11_machine [vR 11 0, vI x1, vI x2, vI x3, vI x4] I Lg R (GM gc) Q := by
  obtain ⟨⟨t, s, r, k⟩, ⟨m, n, p, ft⟩, nt, d, la⟩ := hC
  refine s_machine hrn r hl m h2 h3 h4 (fun g1 g2 g3 I' f m2 => ?_)
  exact hy g1 g2 g3 I' (f.mono (V0_nM (by decide))) ⟨⟨t.fr f rfl rfl, s.fr f rfl (rv_out (by decide)), r.fr f (rv_out (by decide)), k.fr f (by decide)⟩, ⟨m2, n.fr f (by decide), p.fr f (by decide), by rw [f _ _ rfl]; exact ft⟩, nt.fr f (by decide), d.fr f rfl, la.fr f (by decide)⟩
set_option maxRecDepth 100000 in
theorem c_man {x1 : Int32} (hmn : MNsok mn) (hC : CS I R sz bs bd rn ks ml mn es ft nt nk dn ld)
    (hn : ¬ (0 ≤ x1.toInt ∧ x1.toInt ≤ 99 ∧ mn.length < 4) → Q (some (vI (zI (-1)))) I Lg R (GM gc))
    (hy : 0 ≤ x1.toInt → x1.toInt ≤ 99 → mn.length < 4 → ∀ I' : II, FrI nM I I' → CS I' R sz bs bd rn ks ml (mn ++ [x1.toInt]) es ft nt nk dn ld → Q (some (vI (zI mn.length))) I' Lg R (GM gc)) :
    am_Sp Γ (d + 1) 0 0 mX11_man [vR 11 0, vI x1] I Lg R (GM gc) Q := by
  obtain ⟨⟨t, s, r, k⟩, ⟨m, n, p, ft⟩, nt, d, la⟩ := hC
  refine s_man hmn n hn (fun g1 g2 g3 I' f n2 => ?_)
  exact hy g1 g2 g3 I' (f.mono (V0_nM (by decide))) ⟨⟨t.fr f rfl rfl, s.fr f rfl (rv_out (by decide)), r.fr f (rv_out (by decide)), k.fr f (by decide)⟩, ⟨m.fr f (by decide), n2, p.fr f (by decide), by rw [f _ _ rfl]; exact ft⟩, nt.fr f (by decide), d.fr f rfl, la.fr f (by decide)⟩
theorem StockAt.frR {R' : RR} (h : StockAt I R bd) (f : FrC R R') : StockAt I R' bd := ⟨h.1, fun k x hk => by
  obtain ⟨b, g1, g2⟩ := h.2 k x hk
  exact ⟨b, by rw [f _ (by decide)]; exact g1, g2⟩⟩
theorem CRunsAt.frR {R' : RR} (h : CRunsAt I R rn) (f : FrC R R') : CRunsAt I R' rn := fun r hr => ⟨(h r hr).1, fun p e he => by
  obtain ⟨⟨b, g1, g2⟩, g3⟩ := (h r hr).2 p e he
  exact ⟨⟨b, by rw [f _ (by decide)]; exact g1, g2⟩, g3⟩⟩
set_option maxRecDepth 100000 in
theorem c_score (hW : SWok Γ) (hK : KWok Γ) (hb : BSsok sz bs) (hl : MCsok ml) (hC : CS I R sz bs bd rn ks ml mn es ft nt nk dn ld)
    (hF : ∀ e : FLT, scoreA sz bs ml = .inr e → ∀ (I' : II) (R' : RR), FrI nM I I' → CS I' R' 0 bs bd rn ks ml mn es e.1 nt nk dn ld → Q (some (vI (zI (-1 - e.2)))) I' Lg R' (GM gc))
    (hS : ∀ L : LST, scoreA sz bs ml = .inl L → LSv ml 4000 L → L.length ≤ 24 → ∀ (I' : II) (R' : RR), FrI nM I I' → CS I' R' 0 bs bd rn ks ml mn (srt L) 0 nt nk (fun _ => -1) ld → Q (some (vI (zI L.length))) I' Lg R' (GM gc)) :
    am_Sp Γ (d + 9) 0 0 mX11_score [vR 11 0] I Lg R (GM gc) Q := by
  obtain ⟨⟨t, s, r, k⟩, ⟨m, n, p, ft⟩, nt, d, la⟩ := hC
  refine s_score hW hK hb hl ⟨t, m⟩ (fun e he I' R' fR f9 z fl => ?_) (fun L hL h1 h2 I' R' fR f z z2 p2 d2 => ?_)
  · have f : FrI (V0 ((39 :: rdv) ++ pvars)) I I' := f9.mono (fun v i hv => by
      obtain ⟨h1, h2⟩ := V0_app hv
      unfold VSF
      rw [h1, show pvars.elem v = false from h2]
      rfl)
    exact hF e he I' R' (f.mono (V0_nM (by decide))) ⟨⟨⟨z, fun k hk => by omega⟩, (s.fr f rfl (rv_out (by decide))).frR fR, (r.fr f (rv_out (by decide))).frR fR, k.fr f (by decide)⟩, ⟨m.fr f (by decide), n.fr f (by decide), p.fr f9 (by decide), fl.1⟩, nt.fr f (by decide), d.fr f rfl, la.fr f (by decide)⟩
  · exact hS L hL h1 h2 I' R' (f.mono (V0_nM (by decide))) ⟨⟨⟨z, fun k hk => by omega⟩, (s.fr f rfl (rv_out (by decide))).frR fR, (r.fr f (rv_out (by decide))).frR fR, k.fr f (by decide)⟩, ⟨m.fr f (by decide), n.fr f (by decide), p2, z2⟩, nt.fr f (by decide), d2, la.fr f (by decide)⟩
set_option maxRecDepth 100000 in
theorem c_night (hrn : RNSok rn) (hl : MCsok ml) (hd : HDok rn ml) (hes : EVsok ml es) (hes2 : EVsok2 ml es) (hsr : EVsrt es) (hC : CS I R sz bs bd rn ks ml mn es ft nt nk dn ld)
    (hy : ∀ I' : II, FrI nM I I' → CS I' R sz bs bd rn ks ml mn es ft (nightA rn ml es).2.2.1 (nightA rn ml es).2.2.2 dn ld → Q (some (vI (zI (nightA rn ml es).2.2.2.length))) I' Lg R (GM gc)) :
    am_Sp Γ (d + 6) 0 0 mX11_night [vR 11 0] I Lg R (GM gc) Q := by
  obtain ⟨⟨t, s, r, k⟩, ⟨m, n, p, ft⟩, nt, d, la⟩ := hC
  have key : ∀ I' : II, FrI VNT I I' → CNAt I' (nightA rn ml ((es, false) : PS).1).2.2 → Q (some (vI (zI (nightA rn ml ((es, false) : PS).1).2.2.2.length))) I' Lg R (GM gc) := by
    intro I' f9 cn
    have e : nightA rn ml ((es, false) : PS).1 = nightA rn ml es := rfl
    rw [e] at cn ⊢
    generalize nightA rn ml es = N at hy cn ⊢
    have f : FrI (V0 (nglv ++ blv)) I I' := f9.mono (fun v i hv => by
      obtain ⟨h1, h2⟩ := V0_app hv
      unfold VNT
      rw [h1, show blv.elem v = false from h2]
      rfl)
    have cn2 : CNtAt I' N.2.2.1 N.2.2.2 := cn
    exact hy I' (f.mono (V0_nM (by decide))) ⟨⟨t.fr f rfl rfl, s.fr f rfl (rv_out (by decide)), r.fr f (rv_out (by decide)), k.fr f (by decide)⟩, ⟨m.fr f (by decide), n.fr f (by decide), p.fr f (by decide), by rw [f _ _ rfl]; exact ft⟩, cn2, d.fr f rfl, la.fr f (by decide)⟩
  exact s_night (S := (es, false)) hrn r hl m hd p hes hes2 hsr key
set_option maxRecDepth 100000 in
theorem c_balls {x1 x2 : Int32} (hrn : RNSok rn) (hl : MCsok ml) (hes : EVsok ml es) (hC : CS I R sz bs bd rn ks ml mn es ft nt nk dn ld)
    (hn : (¬ ∃ r : Nat, r < 4 ∧ x1 = zI r ∧ 0 < (rn r).length ∧ 0 ≤ x2.toInt ∧ x2.toInt ≤ 1000) → Q (some (vI (zI (-1)))) I Lg R (GM gc))
    (hy : ∀ r : Nat, r < 4 → x1 = zI r → 0 < (rn r).length → 0 ≤ x2.toInt → x2.toInt ≤ 1000 → ∀ I' : II, FrI nM I I' → CS I' R sz bs bd rn ks ml mn es ft nt nk dn ld → Q (some (vI (zI (ballsA ml es (rn r) r x2.toInt)))) I' Lg R (GM gc)) :
    am_Sp Γ (d + 4) 0 0 mX11_balls [vR 11 0, vI x1, vI x2] I Lg R (GM gc) Q := by
  obtain ⟨⟨t, s, r, k⟩, ⟨m, n, p, ft⟩, nt, d, la⟩ := hC
  refine s_balls (S := (es, false)) hrn r hl m p hes hn (fun r0 hr0 hx h1 h2 h3 I' f0 => ?_)
  have f : FrI (V0 (fvars ++ (0 :: bvars))) I I' := f0.mono (fun v i hv => by
    obtain ⟨h1, h2⟩ := V0_app hv
    unfold VF
    rw [V1_of0 h1, V1_of0 h2]
    rfl)
  exact hy r0 hr0 hx h1 h2 h3 I' (f.mono (V0_nM (by decide))) ⟨⟨t.fr f rfl rfl, s.fr f rfl (rv_out (by decide)), r.fr f (rv_out (by decide)), k.fr f0 (by decide)⟩, ⟨m.fr f (by decide), n.fr f (by decide), p.fr f (by decide), by rw [f _ _ rfl]; exact ft⟩, nt.fr f (by decide), d.fr f rfl, la.fr f (by decide)⟩
/-- the answers of lay, as a list -/
def ldOf (q : List Nat) (n : Nat) : List Int := (List.range n).map (fun k => (q.getD k 0 : Int))
theorem ldOf_len {q : List Nat} {n : Nat} : (ldOf q n).length = n := by unfold ldOf; rw [List.length_map, List.length_range]
theorem ldOf_get {q : List Nat} {n k : Nat} {x : Int} (h : (ldOf q n)[k]? = some x) : k < n ∧ x = (q.getD k 0 : Nat) := by
  have hk : k < n := by have := (List.getElem?_eq_some_iff.mp h).1; rw [ldOf_len] at this; exact this
  unfold ldOf at h
  rw [List.getElem?_map, List.getElem?_range hk] at h
  exact ⟨hk, (Option.some.inj h).symm⟩
set_option maxRecDepth 100000 in
theorem c_lay {x1 : Int32} (hb : BSsok sz bs) (hbd : BDsok bd) (hC : CS I R sz bs bd rn ks ml mn es ft nt nk dn ld)
    (hn : ¬ (1 ≤ x1.toInt ∧ x1.toInt ≤ 4 ∧ 0 < bd.length ∧ tkOk sz bs) → ∀ I' : II, FrI nM I I' → CS I' R 0 bs bd rn ks ml mn es ft nt nk dn ld → Q (some (vI (zI (-1)))) I' Lg R (GM gc))
    (hy : ∀ n : Nat, x1 = zI n → 1 ≤ n → n ≤ 4 → 0 < bd.length → tkOk sz bs → ∀ I' : II, FrI nM I I' → CS I' R 0 bs bd rn ks ml mn es ft nt nk dn (ldOf (layA bd (sz / 2) (tkv bs) n).2 n) → Q (some (vI (zI (layA bd (sz / 2) (tkv bs) n).1))) I' Lg R (GM gc)) :
    am_Sp Γ (d + 10) 0 0 mX11_lay [vR 11 0, vI x1] I Lg R (GM gc) Q := by
  obtain ⟨⟨t, s, r, k⟩, ⟨m, n, p, ft⟩, nt, d, la⟩ := hC
  obtain ⟨q0, hq0⟩ := la.2
  refine s_lay hb t hbd s hq0 (fun hno I' f z => ?_) (fun n0 hx h1 h2 h3 h4 I' f9 z z2 lq => ?_)
  · exact hn hno I' (f.mono (V0_nM (by decide))) ⟨⟨⟨z, fun k hk => by omega⟩, s.fr f rfl (rv_out (by decide)), r.fr f (rv_out (by decide)), k.fr f (by decide)⟩, ⟨m.fr f (by decide), n.fr f (by decide), p.fr f (by decide), by rw [f _ _ rfl]; exact ft⟩, nt.fr f (by decide), d.fr f rfl, la.fr f (by decide)⟩
  · have f : FrI (V0 ((lyv ++ bvars) ++ lyv2)) I I' := f9.mono (fun v i hv => by
      obtain ⟨h1, h2⟩ := V0_app hv
      obtain ⟨h1, h3⟩ := V0_app h1
      unfold VLZ VLY
      rw [h1, h2, V1_of0 h3]
      rfl)
    exact hy n0 hx h1 h2 h3 h4 I' (f.mono (V0_nM (by decide))) ⟨⟨⟨z, fun k hk => by omega⟩, s.fr f rfl (rv_out (by decide)), r.fr f (rv_out (by decide)), k.fr f (by decide)⟩, ⟨m.fr f (by decide), n.fr f (by decide), p.fr f (by decide), by rw [f _ _ rfl]; exact ft⟩, nt.fr f (by decide), d.fr f rfl, ⟨⟨by rw [z2, ldOf_len], fun k x hk => by
      obtain ⟨g1, g2⟩ := ldOf_get hk
      rw [g2]
      exact lq k (by omega)⟩, _, lq⟩⟩
set_option maxRecDepth 100000 in
theorem c_worn {x1 : Int32} (hrn : RNSok rn) (hb : BSsok sz bs) (hC : CS I R sz bs bd rn ks ml mn es ft nt nk dn ld)
    (hn : ¬ (tkOk sz bs ∧ ∃ r : Nat, r < 4 ∧ x1 = zI r ∧ 0 < (rn r).length) → ∀ I' : II, FrI nM I I' → CS I' R 0 bs bd rn ks ml mn es ft nt nk dn ld → Q (some (vI (zI (-1)))) I' Lg R (GM gc))
    (hy : ∀ r : Nat, r < 4 → x1 = zI r → 0 < (rn r).length → tkOk sz bs → ∀ I' : II, FrI nM I I' → CS I' R 0 bs bd rn ks ml mn es ft nt nk dn ld → Q (some (vI (zI (wornA (rn r) (sz / 2) (tkv bs))))) I' Lg R (GM gc)) :
    am_Sp Γ (d + 17) 0 0 mX11_worn [vR 11 0, vI x1] I Lg R (GM gc) Q := by
  obtain ⟨⟨t, s, r, k⟩, ⟨m, n, p, ft⟩, nt, d, la⟩ := hC
  refine s_worn hrn r hb t (fun hno I' f z => ?_) (fun r0 hr0 hx h1 h2 I' f9 z => ?_)
  · exact hn hno I' (f.mono (V0_nM (by decide))) ⟨⟨⟨z, fun k hk => by omega⟩, s.fr f rfl (rv_out (by decide)), r.fr f (rv_out (by decide)), k.fr f (by decide)⟩, ⟨m.fr f (by decide), n.fr f (by decide), p.fr f (by decide), by rw [f _ _ rfl]; exact ft⟩, nt.fr f (by decide), d.fr f rfl, la.fr f (by decide)⟩
  · have f : FrI (V0 ((wov ++ bvars) ++ lyv2)) I I' := f9.mono (fun v i hv => by
      obtain ⟨h1, h2⟩ := V0_app hv
      obtain ⟨h1, h3⟩ := V0_app h1
      unfold VWZ VWO
      rw [h1, h2, V1_of0 h3]
      rfl)
    exact hy r0 hr0 hx h1 h2 I' (f.mono (V0_nM (by decide))) ⟨⟨⟨z, fun k hk => by omega⟩, s.fr f rfl (rv_out (by decide)), r.fr f (rv_out (by decide)), k.fr f (by decide)⟩, ⟨m.fr f (by decide), n.fr f (by decide), p.fr f (by decide), by rw [f _ _ rfl]; exact ft⟩, nt.fr f (by decide), d.fr f rfl, la.fr f (by decide)⟩
end COPS2

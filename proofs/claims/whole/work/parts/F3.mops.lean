/-! The reference's calls over the tied state. -/
theorem mrv_out {l : List Nat} (h : mrv.all (fun v => !l.elem v) = true) : ∀ v ∈ mrv, V0 l v 0 = false := V0_out h
theorem MBoardAt.fb {I I' : II} {b : Nat} {x : BD} {P : Nat → Nat → Bool} (h : MBoardAt I b x) (hf : FrI P I I') (hP : ∀ v ∈ [126, 127, 128, 129, 130], P v 0 = false) : MBoardAt I' b x := by
  obtain ⟨⟨len, h0, h1⟩, h2, h3, h4, h5⟩ := h
  refine ⟨⟨len, h0, ?_⟩, ?_, ?_, ?_, ?_⟩ <;> rw [hf _ _ (hP _ (by decide))] <;> assumption
section MOPS
variable {Γ : AMG} {Q : QQ} {d : Nat} {I : II} {Lg : LJ} {R : RR} {gc : Nat → Nat} {sz : Nat} {bs : Nat → Int} {bd : List BD} {rn : Nat → RUN} {ks : KS} {ml : List MC} {mn : List Int} {es : List EV} {ft : Int} {nt : NT} {nk : KS} {dn : Nat → Int} {made : Bool} {ld : List Int}
theorem MS.thr (h : MS I sz bs bd rn ks ml mn es ft nt nk dn made ld) (x : Int32) : FrI yM I (up3 I 47 0 0 x) ∧ MS (up3 I 47 0 0 x) sz bs bd rn ks ml mn es ft nt nk dn made ld := by
  obtain ⟨⟨t, s, r, k⟩, ⟨m, n, p, ft⟩, nt, d, la⟩ := h
  have f : FrI (V0 [47]) I (up3 I 47 0 0 x) := FrI.rf.up rfl
  exact ⟨f.mono (V0_yM (by decide)), ⟨t.fr f rfl rfl, s.fr f (by decide), r.fr f (by decide), k.fr f (by decide)⟩, ⟨m.fr f (by decide), n.fr f (by decide), p.fr f (by decide), by rw [f _ _ rfl]; exact ft⟩, nt.fr f (by decide), d.fr f (by decide), la.fr f (by decide)⟩
set_option maxRecDepth 100000 in
theorem m_feed {a b c e g : Int32} (hb : BSsok sz bs) (hC : MS I sz bs bd rn ks ml mn es ft nt nk dn made ld)
    (hn : 620 < sz → ∀ I' : II, FrI yM I I' → MS I' sz bs bd rn ks ml mn es ft nt nk dn made ld → Q (some (vI (zI (-1)))) I' Lg R (GM gc))
    (hy : sz ≤ 620 → ∀ I' : II, FrI yM I I' → MS I' (sz + 20) (fbs sz bs a b c e g) bd rn ks ml mn es ft nt nk dn made ld → Q (some (vI (zI (sz + 20 : Nat)))) I' Lg R (GM gc)) :
    am_Sp Γ (d + 1) 0 0 mX12_feed [vR 12 0, vI a, vI b, vI c, vI e, vI g] I Lg R (GM gc) Q := by
  have h640 := hb.1
  have h0 := hC
  obtain ⟨⟨t, s, r, k⟩, ⟨m, n, p, ft⟩, nt, d, la⟩ := hC
  refine s_mfeed (sz := (sz : Int)) t.1 (by omega) (by omega) (fun h => ?_) (fun h I' _ z f e9 => ?_)
  · exact hn (by omega) _ (h0.thr _).1 (h0.thr _).2
  · have e1 : ((sz + 20 : Nat) : Int) = (sz : Int) + 20 := by omega
    have hy := hy (by omega) I' (f.mono (V0_yM (by decide))) ⟨⟨⟨by rw [z, e1], fun k hk => by rw [e9, Int.toNat_natCast]; exact fbs_at t.2 hk⟩, s.fr f (by decide), r.fr f (by decide), k.fr f (by decide)⟩, ⟨m.fr f (by decide), n.fr f (by decide), p.fr f (by decide), by rw [f _ _ rfl]; exact ft⟩, nt.fr f (by decide), d.fr f (by decide), la.fr f (by decide)⟩
    rw [e1] at hy
    exact hy
set_option maxRecDepth 100000 in
theorem m_end {x1 : Int32} (hb : BSsok sz bs) (hC : MS I sz bs bd rn ks ml mn es ft nt nk dn made ld)
    (hn : ¬ (0 ≤ x1.toInt ∧ x1.toInt ≤ sz) → ∀ I' : II, FrI yM I I' → MS I' sz bs bd rn ks ml mn es ft nt nk dn made ld → Q (some (vI (zI 0))) I' Lg R (GM gc))
    (hy : ∀ n : Nat, n ≤ sz → x1 = zI n → ∀ I' : II, FrI yM I I' → MS I' n bs bd rn ks ml mn es ft nt nk dn made ld → Q (some (vI (zI 1))) I' Lg R (GM gc)) :
    am_Sp Γ d 0 0 mX12_end [vR 12 0, vI x1] I Lg R (GM gc) Q := by
  have h640 := hb.1
  have h0 := hC
  obtain ⟨⟨t, s, r, k⟩, ⟨m, n, p, ft⟩, nt, d, la⟩ := hC
  refine s_mend (sz := (sz : Int)) t.1 (by omega) (by omega) (fun h => ?_) (fun h h2 => ?_)
  · exact hn (by omega) _ (h0.thr _).1 (h0.thr _).2
  · have f : FrI (V0 [47, 48]) I (up3 (up3 I 47 0 0 (zI 0)) 48 0 0 x1) := (FrI.rf.up rfl).up rfl
    have e1 : x1 = zI x1.toInt.toNat := by rw [show ((x1.toInt.toNat : Nat) : Int) = x1.toInt by omega, zI_self]
    exact hy x1.toInt.toNat (by omega) e1 _ (f.mono (V0_yM (by decide))) ⟨⟨⟨by rw [up3_s]; exact e1, fun k hk => by rw [f _ _ rfl]; exact t.2 k (by omega)⟩, s.fr f (by decide), r.fr f (by decide), k.fr f (by decide)⟩, ⟨m.fr f (by decide), n.fr f (by decide), p.fr f (by decide), by rw [f _ _ rfl]; exact ft⟩, nt.fr f (by decide), d.fr f (by decide), la.fr f (by decide)⟩
set_option maxRecDepth 100000 in
theorem m_board {x1 x2 x3 x4 x5 : Int32} (hbd : BDsok bd) (hrn : RNSok rn) (hC : MS I sz bs bd rn ks ml mn es ft nt nk dn made ld)
    (hn : (bd.length = 16 ∨ ¬ bdTold x1 x2 x3 x4 x5) → ∀ I' : II, FrI yM I I' → MS I' sz bs bd rn ks ml mn es ft nt nk dn made ld → Q (some (vI (zI (-1)))) I' Lg R (GM gc))
    (hy : bd.length < 16 → bdTold x1 x2 x3 x4 x5 → ∀ I' : II, FrI yM I I' → MS I' sz bs (bd ++ [bdOf x1 x2 x3 x4 x5]) rn ks ml mn es ft nt nk dn made ld → Q (some (vI (zI bd.length))) I' Lg R (GM gc)) :
    am_Sp Γ (d + 1) 0 0 mX12_board [vR 12 0, vI x1, vI x2, vI x3, vI x4, vI x5] I Lg R (GM gc) Q := by
  have h0 := hC
  obtain ⟨⟨t, s, r, k⟩, ⟨m, n, p, ft⟩, nt, d, la⟩ := hC
  refine s_mboard hbd s (fun h => hn h _ (h0.thr _).1 (h0.thr _).2) (fun h1 h2 I' f _ hk st => ?_)
  have r2 : MRunsAt I' rn := ⟨fun q hq => ⟨by rw [f _ _ rfl]; exact (r.1 q hq).1, fun g p e he => by
    obtain ⟨⟨b, g1, g2, g3⟩, g4⟩ := (r.1 q hq).2 g p e he
    refine ⟨⟨b, g1, by rw [f _ _ rfl]; exact g2, hk b e.1 ((hrn q hq).2 p e he).1 g3⟩, ?_⟩
    rw [f 133 _ rfl, f 134 _ rfl]
    exact g4⟩, fun v => by rw [f _ _ rfl]; exact r.2 v⟩
  exact hy h1 h2 I' (f.mono (V0_yM (by decide))) ⟨⟨t.fr f rfl rfl, st, r2, k.fr f (by decide)⟩, ⟨m.fr f (by decide), n.fr f (by decide), p.fr f (by decide), by rw [f _ _ rfl]; exact ft⟩, nt.fr f (by decide), d.fr f (by decide), la.fr f (by decide)⟩
theorem mrun_new {I' : II} {r : Nat} (hb : BSsok sz bs) (s : MStockAt I' bd) (hbd : bd.length ≤ 16) (hok : runOk sz bs bd.length) (hM : ∀ p, p < sz / 3 → I' 132 0 (12 * r + p) = zI (bs (3 * p)) ∧ I' 133 0 (12 * r + p) = zI (bs (3 * p + 1)) ∧ I' 134 0 (12 * r + p) = zI (bs (3 * p + 2))) (g : Int32) : MRunG I' r g (rnOf bd bs (sz / 3)) := by
  intro p e he
  have hp : p < sz / 3 := by have := (List.getElem?_eq_some_iff.mp he).1; rwa [rnOf_len] at this
  rw [rnOf_get hp] at he
  have he := (Option.some.inj he).symm
  subst he
  obtain ⟨h1, h2, h3⟩ := hM p hp
  obtain ⟨h4, h5, h6⟩ := hok.2.2.2 p hp
  obtain ⟨h7, h8⟩ := hb.2 (3 * p)
  refine ⟨⟨(bs (3 * p)).toNat, by omega, by rw [h1, show (((bs (3 * p)).toNat : Nat) : Int) = bs (3 * p) by omega], s.2.1 _ _ (bdA_get h7 h4)⟩, ?_⟩
  split
  · exact h2
  · exact h3
set_option maxRecDepth 100000 in
theorem m_run {x1 : Int32} (hb : BSsok sz bs) (hbd : BDsok bd) (hrn : RNSok rn) (hC : MS I sz bs bd rn ks ml mn es ft nt nk dn made ld)
    (hy : ∀ r : Nat, r < 4 → x1 = zI r → runOk sz bs bd.length → ∀ I' : II, FrI yM I I' → MS I' 0 bs bd (rnSet rn r (rnOf bd bs (sz / 3))) ks ml mn es ft nt nk dn made ld → Q (some (vI (zI (sz / 3 : Nat)))) I' Lg R (GM gc))
    (hn : ((x1.toInt < 0 ∨ 4 ≤ x1.toInt) ∨ ¬ runOk sz bs bd.length) → ∀ I' : II, FrI yM I I' → MS I' 0 bs bd rn ks ml mn es ft nt nk dn made ld → Q (some (vI (zI (-1)))) I' Lg R (GM gc)) :
    am_Sp Γ (d + 1) 0 0 mX12_run [vR 12 0, vI x1] I Lg R (GM gc) Q := by
  obtain ⟨⟨t, s, r, k⟩, ⟨m, n, p, ft⟩, nt, d, la⟩ := hC
  refine s_mrun hb t s.1 hbd.1 (fun r0 hr0 hx hok I' f _ z hpl hrow => ?_) (fun hno I' f _ z => ?_)
  · have s2 : MStockAt I' bd := s.fr f (by decide)
    have r2 : MRunsAt I' (rnSet rn r0 (rnOf bd bs (sz / 3))) := ⟨fun q hq => by
      unfold rnSet
      by_cases e : q = r0
      · rw [if_pos e, e]
        exact ⟨by rw [hpl, if_pos rfl, rnOf_len], fun g => mrun_new hb s2 hbd.1 hok hrow.1 g⟩
      · rw [if_neg e]
        refine ⟨by rw [hpl, if_neg e]; exact (r.1 q hq).1, fun g p e he => ?_⟩
        obtain ⟨⟨b, g1, g2, g3⟩, g4⟩ := (r.1 q hq).2 g p e he
        have hp : p < 12 := by have h1 := (List.getElem?_eq_some_iff.mp he).1; have h2 := (hrn q hq).1; omega
        have hn12 := hok.2.2.1
        obtain ⟨w1, w2, w3⟩ := hrow.2 (12 * q + p) (by omega)
        refine ⟨⟨b, g1, by rw [w1]; exact g2, g3.fb f (by decide)⟩, ?_⟩
        rw [w2, w3]
        exact g4, fun v => by rw [f _ _ rfl]; exact r.2 v⟩
    exact hy r0 hr0 hx hok I' (f.mono (V0_yM (by decide))) ⟨⟨⟨z, fun k hk => by omega⟩, s2, r2, k.fr f (by decide)⟩, ⟨m.fr f (by decide), n.fr f (by decide), p.fr f (by decide), by rw [f _ _ rfl]; exact ft⟩, nt.fr f (by decide), d.fr f (by decide), la.fr f (by decide)⟩
  · exact hn hno I' (f.mono (V0_yM (by decide))) ⟨⟨⟨z, fun k hk => by omega⟩, s.fr f (by decide), r.fr f (by decide), k.fr f (by decide)⟩, ⟨m.fr f (by decide), n.fr f (by decide), p.fr f (by decide), by rw [f _ _ rfl]; exact ft⟩, nt.fr f (by decide), d.fr f (by decide), la.fr f (by decide)⟩
set_option maxRecDepth 100000 in
theorem m_fall {x1 g x3 : Int32} (hrn : RNSok rn) (hC : MS I sz bs bd rn ks ml mn es ft nt nk dn made ld)
    (hn : (¬ ∃ r : Nat, r < 4 ∧ x1 = zI r ∧ 0 < (rn r).length ∧ 0 ≤ x3.toInt ∧ x3.toInt ≤ 3) → ∀ I' : II, FrI yM I I' → MS I' sz bs bd rn ks ml mn es ft nt nk dn made ld → Q (some (vI (zI (-2)))) I' Lg R (GM gc))
    (hy : ∀ r : Nat, r < 4 → x1 = zI r → 0 < (rn r).length → 0 ≤ x3.toInt → x3.toInt ≤ 3 → ∀ I' : II, FrI yM I I' → MS I' sz bs bd rn (fall9 (rn r) g nols).ks ml mn es ft nt nk dn made ld → Q (some (vI (zI (fAns (fall9 (rn r) g nols) x3.toInt)))) I' Lg R (GM gc)) :
    am_Sp Γ (d + 3) 0 0 mX12_fall [vR 12 0, vI x1, vI g, vI x3] I Lg R (GM gc) Q := by
  have h0 := hC
  obtain ⟨⟨t, s, r, k⟩, ⟨m, n, p, ft⟩, nt, d, la⟩ := hC
  refine s_mfall hrn r (fun h => hn h _ (h0.thr _).1 (h0.thr _).2) (fun r0 hr0 hx h1 h2 h3 I' f _ k1 k2 => ?_)
  exact hy r0 hr0 hx h1 h2 h3 I' (f.mono (V0_yM (by decide))) ⟨⟨t.fr f rfl rfl, s.fr f (by decide), r.fr f (by decide), k1, k2⟩, ⟨m.fr f (by decide), n.fr f (by decide), p.fr f (by decide), by rw [f _ _ rfl]; exact ft⟩, nt.fr f (by decide), d.fr f (by decide), la.fr f (by decide)⟩
set_option maxRecDepth 100000 in
theorem m_machine {x1 x2 x3 x4 : Int32} (hrn : RNSok rn) (hl : ml.length ≤ 12) (hC : MS I sz bs bd rn ks ml mn es ft nt nk dn made ld)
    (h2 : ml.length = 12 → ∀ I' : II, FrI yM I I' → MS I' sz bs bd rn ks ml mn es ft nt nk dn made ld → Q (some (vI (zI (-2)))) I' Lg R (GM gc))
    (h3 : ml.length < 12 → ¬ (0 ≤ x1.toInt ∧ x1.toInt ≤ 4 ∧ 0 ≤ x2.toInt ∧ x2.toInt ≤ 99) → ∀ I' : II, FrI yM I I' → MS I' sz bs bd rn ks ml mn es ft nt nk dn made ld → Q (some (vI (zI (-3)))) I' Lg R (GM gc))
    (h4 : ml.length < 12 → (0 ≤ x1.toInt ∧ x1.toInt ≤ 4 ∧ 0 ≤ x2.toInt ∧ x2.toInt ≤ 99) → ¬ standOk rn x1.toInt x3.toInt x4.toInt → ∀ I' : II, FrI yM I I' → MS I' sz bs bd rn ks ml mn es ft nt nk dn made ld → Q (some (vI (zI (-4)))) I' Lg R (GM gc))
    (hy : ml.length < 12 → (0 ≤ x1.toInt ∧ x1.toInt ≤ 4 ∧ 0 ≤ x2.toInt ∧ x2.toInt ≤ 99) → standOk rn x1.toInt x3.toInt x4.toInt → ∀ I' : II, FrI yM I I' → MS I' sz bs bd rn ks (ml ++ [(x1.toInt, x2.toInt, x3.toInt, x4.toInt)]) mn es ft nt nk dn made ld → Q (some (vI (zI ml.length))) I' Lg R (GM gc)) :
    am_Sp Γ (d + 3) 0 0 mX12_machine [vR 12 0, vI x1, vI x2, vI x3, vI x4] I Lg R (GM gc) Q := by
  have h0 := hC
  obtain ⟨⟨t, s, r, k⟩, ⟨m, n, p, ft⟩, nt, d, la⟩ := hC
  refine s_mmachine hrn r hl m (fun g1 => h2 g1 _ (h0.thr _).1 (h0.thr _).2) (fun g1 g2 => h3 g1 g2 _ (h0.thr _).1 (h0.thr _).2) (fun g1 g2 g3 => h4 g1 g2 g3 _ (h0.thr _).1 (h0.thr _).2) (fun g1 g2 g3 I' f _ m2 => ?_)
  exact hy g1 g2 g3 I' (f.mono (V0_yM (by decide))) ⟨⟨t.fr f rfl rfl, s.fr f (by decide), r.fr f (by decide), k.fr f (by decide)⟩, ⟨m2, n.fr f (by decide), p.fr f (by decide), by rw [f _ _ rfl]; exact ft⟩, nt.fr f (by decide), d.fr f (by decide), la.fr f (by decide)⟩
set_option maxRecDepth 100000 in
theorem m_man {x1 : Int32} (hmn : MNsok mn) (hC : MS I sz bs bd rn ks ml mn es ft nt nk dn made ld)
    (hn : ¬ (0 ≤ x1.toInt ∧ x1.toInt ≤ 99 ∧ mn.length < 4) → ∀ I' : II, FrI yM I I' → MS I' sz bs bd rn ks ml mn es ft nt nk dn made ld → Q (some (vI (zI (-1)))) I' Lg R (GM gc))
    (hy : 0 ≤ x1.toInt → x1.toInt ≤ 99 → mn.length < 4 → ∀ I' : II, FrI yM I I' → MS I' sz bs bd rn ks ml (mn ++ [x1.toInt]) es ft nt nk dn made ld → Q (some (vI (zI mn.length))) I' Lg R (GM gc)) :
    am_Sp Γ (d + 1) 0 0 mX12_man [vR 12 0, vI x1] I Lg R (GM gc) Q := by
  have h0 := hC
  obtain ⟨⟨t, s, r, k⟩, ⟨m, n, p, ft⟩, nt, d, la⟩ := hC
  refine s_mman hmn n (fun g1 => hn g1 _ (h0.thr _).1 (h0.thr _).2) (fun g1 g2 g3 I' f _ n2 => ?_)
  exact hy g1 g2 g3 I' (f.mono (V0_yM (by decide))) ⟨⟨t.fr f rfl rfl, s.fr f (by decide), r.fr f (by decide), k.fr f (by decide)⟩, ⟨m.fr f (by decide), n2, p.fr f (by decide), by rw [f _ _ rfl]; exact ft⟩, nt.fr f (by decide), d.fr f (by decide), la.fr f (by decide)⟩
set_option maxRecDepth 100000 in
theorem m_score (hb : BSsok sz bs) (hl : MCsok ml) (hC : MS I sz bs bd rn ks ml mn es ft nt nk dn made ld)
    (hF : ∀ e : FLT, scoreA sz bs ml = .inr e → ∀ (I' : II) (Lg' : LJ), FrI yM I I' → MS I' 0 bs bd rn ks ml mn es e.1 nt nk dn made ld → Q (some (vI (zI (-1 - e.2)))) I' Lg' R (GM gc))
    (hS : ∀ L : LST, scoreA sz bs ml = .inl L → LSv ml 4000 L → L.length ≤ 24 → ∀ (I' : II) (Lg' : LJ), FrI yM I I' → MS I' 0 bs bd rn ks ml mn (srt L) 0 nt nk (fun _ => -1) false ld → Q (some (vI (zI L.length))) I' Lg' R (GM gc)) :
    am_Sp Γ (d + 5) 0 0 mX12_score [vR 12 0] I Lg R (GM gc) Q := by
  obtain ⟨⟨t, s, r, k⟩, ⟨m, n, p, ft⟩, nt, d, la⟩ := hC
  refine s_mscore hb t hl m (fun e he I' Lg' f _ z fl => ?_) (fun L hL h1 h2 I' Lg' f _ z z2 z3 p2 => ?_)
  · exact hF e he I' Lg' (f.mono (V0_yM (by decide))) ⟨⟨⟨z, fun k hk => by omega⟩, s.fr f (by decide), r.fr f (by decide), k.fr f (by decide)⟩, ⟨m.fr f (by decide), n.fr f (by decide), p.fr f (by decide), fl⟩, nt.fr f (by decide), d.fr f (by decide), la.fr f (by decide)⟩
  · exact hS L hL h1 h2 I' Lg' (f.mono (V0_yM (by decide))) ⟨⟨⟨z, fun k hk => by omega⟩, s.fr f (by decide), r.fr f (by decide), k.fr f (by decide)⟩, ⟨m.fr f (by decide), n.fr f (by decide), p2, z2⟩, nt.fr f (by decide), ⟨z3, fun h => (by cases h), fun _ _ => rfl⟩, la.fr f (by decide)⟩
set_option maxRecDepth 100000 in
theorem m_night (hrn : RNSok rn) (hl : MCsok ml) (hd : HDok rn ml) (hes : EVsok ml es) (hes2 : EVsok2 ml es) (hC : MS I sz bs bd rn ks ml mn es ft nt nk dn made ld)
    (hy : ∀ I' : II, FrI yM I I' → MS I' sz bs bd rn ks ml mn es ft (nightA rn ml es).2.2.1 (nightA rn ml es).2.2.2 dn made ld → Q (some (vI (zI (nightA rn ml es).2.2.2.length))) I' Lg R (GM gc)) :
    am_Sp Γ (d + 4) 0 0 mX12_night [vR 12 0] I Lg R (GM gc) Q := by
  obtain ⟨⟨t, s, r, k⟩, ⟨m, n, p, ft⟩, nt, d, la⟩ := hC
  have key : ∀ I' : II, FrI (V0 mnv9) I I' → I' 47 0 0 = zI 0 → MNAt I' (nightA rn ml es).2.2 → Q (some (vI (zI (nightA rn ml es).2.2.2.length))) I' Lg R (GM gc) := by
    intro I' f _ cn
    generalize nightA rn ml es = N at hy cn ⊢
    have cn2 : MNtAt I' N.2.2.1 N.2.2.2 := cn
    exact hy I' (f.mono (V0_yM (by decide))) ⟨⟨t.fr f rfl rfl, s.fr f (by decide), r.fr f (by decide), k.fr f (by decide)⟩, ⟨m.fr f (by decide), n.fr f (by decide), p.fr f (by decide), by rw [f _ _ rfl]; exact ft⟩, cn2, d.fr f (by decide), la.fr f (by decide)⟩
  exact s_mnight hrn r hl m hd p hes hes2 key
set_option maxRecDepth 100000 in
theorem m_balls {x1 x2 : Int32} (hrn : RNSok rn) (hl : MCsok ml) (hes : EVsok ml es) (hC : MS I sz bs bd rn ks ml mn es ft nt nk dn made ld)
    (hn : (¬ ∃ r : Nat, r < 4 ∧ x1 = zI r ∧ 0 < (rn r).length ∧ 0 ≤ x2.toInt ∧ x2.toInt ≤ 1000) → ∀ I' : II, FrI yM I I' → MS I' sz bs bd rn ks ml mn es ft nt nk dn made ld → Q (some (vI (zI (-1)))) I' Lg R (GM gc))
    (hy : ∀ r : Nat, r < 4 → x1 = zI r → 0 < (rn r).length → 0 ≤ x2.toInt → x2.toInt ≤ 1000 → ∀ I' : II, FrI yM I I' → MS I' sz bs bd rn ks ml mn es ft nt nk dn made ld → Q (some (vI (zI (ballsA ml es (rn r) r x2.toInt)))) I' Lg R (GM gc)) :
    am_Sp Γ (d + 3) 0 0 mX12_balls [vR 12 0, vI x1, vI x2] I Lg R (GM gc) Q := by
  have h0 := hC
  obtain ⟨⟨t, s, r, k⟩, ⟨m, n, p, ft⟩, nt, d, la⟩ := hC
  refine s_mballs hrn r hl m p hes (fun g1 => hn g1 _ (h0.thr _).1 (h0.thr _).2) (fun r0 hr0 hx h1 h2 h3 I' f _ => ?_)
  exact hy r0 hr0 hx h1 h2 h3 I' (f.mono (V0_yM (by decide))) ⟨⟨t.fr f rfl rfl, s.fr f (by decide), r.fr f (by decide), k.fr f (by decide)⟩, ⟨m.fr f (by decide), n.fr f (by decide), p.fr f (by decide), by rw [f _ _ rfl]; exact ft⟩, nt.fr f (by decide), d.fr f (by decide), la.fr f (by decide)⟩
set_option maxRecDepth 100000 in
theorem m_fillings {x1 : Int32} (hl : MCsok ml) (hes : EVsok ml es) (hC : MS I sz bs bd rn ks ml mn es ft nt nk dn made ld)
    (hN : (∀ (kb : Nat) (mc : MC), x1 = zI kb → ml[kb]? = some mc → mc.1 ≠ 1) → ∀ I' : II, FrI yM I I' → MS I' sz bs bd rn ks ml mn es ft nt nk dn made ld → Q (some (vI (zI (-1)))) I' Lg R (GM gc))
    (hY : ∀ (kb : Nat) (mc : MC), x1 = zI kb → ml[kb]? = some mc → mc.1 = 1 → ∀ I' : II, FrI yM I I' → MS I' sz bs bd rn ks ml mn es ft nt nk dn made ld → Q (some (vI (zI (fans ml mc.2.2.1 mc.2.2.2 (bfil es kb))))) I' Lg R (GM gc)) :
    am_Sp Γ (d + 2) 0 0 mX12_fillings [vR 12 0, vI x1] I Lg R (GM gc) Q := by
  have h0 := hC
  obtain ⟨⟨t, s, r, k⟩, ⟨m, n, p, ft⟩, nt, d, la⟩ := hC
  refine s_mfillings hl m p hes (fun g1 => hN g1 _ (h0.thr _).1 (h0.thr _).2) (fun kb mc h1 h2 h3 I' f _ => ?_)
  exact hY kb mc h1 h2 h3 I' (f.mono (V0_yM (by decide))) ⟨⟨t.fr f rfl rfl, s.fr f (by decide), r.fr f (by decide), k.fr f (by decide)⟩, ⟨m.fr f (by decide), n.fr f (by decide), p.fr f (by decide), by rw [f _ _ rfl]; exact ft⟩, nt.fr f (by decide), d.fr f (by decide), la.fr f (by decide)⟩
set_option maxRecDepth 100000 in
theorem m_lay {x1 : Int32} (hb : BSsok sz bs) (hbd : BDsok bd) (hrn : RNSok rn) (hC : MS I sz bs bd rn ks ml mn es ft nt nk dn made ld)
    (hn : ¬ (1 ≤ x1.toInt ∧ x1.toInt ≤ 4 ∧ 0 < bd.length ∧ tkOk sz bs) → ∀ I' : II, FrI yM I I' → MS I' 0 bs bd rn ks ml mn es ft nt nk dn made ld → Q (some (vI (zI (-1)))) I' Lg R (GM gc))
    (hy : ∀ n : Nat, x1 = zI n → 1 ≤ n → n ≤ 4 → 0 < bd.length → tkOk sz bs → ∀ I' : II, FrI yM I I' → MS I' 0 bs bd rn ks ml mn es ft nt nk dn made (ldOf (layA bd (sz / 2) (tkv bs) n).2 n) → Q (some (vI (zI (layA bd (sz / 2) (tkv bs) n).1))) I' Lg R (GM gc)) :
    am_Sp Γ (d + 4) 0 0 mX12_lay [vR 12 0, vI x1] I Lg R (GM gc) Q := by
  obtain ⟨⟨t, s, r, k⟩, ⟨m, n, p, ft⟩, nt, d, la⟩ := hC
  refine s_mlay hb t hbd s r.2 (fun hno I' f _ z => ?_) (fun n0 hx h1 h2 h3 h4 I' f _ z w1 w2 z2 lq _ => ?_)
  · exact hn hno I' (f.mono (V0_yM (by decide))) ⟨⟨⟨z, fun k hk => by omega⟩, s.fr f (by decide), r.fr f (by decide), k.fr f (by decide)⟩, ⟨m.fr f (by decide), n.fr f (by decide), p.fr f (by decide), by rw [f _ _ rfl]; exact ft⟩, nt.fr f (by decide), d.fr f (by decide), la.fr f (by decide)⟩
  · have r2 : MRunsAt I' rn := ⟨fun q hq => ⟨by rw [w2 q (by omega)]; exact (r.1 q hq).1, fun g p e he => by
      obtain ⟨⟨b, g1, g2, g3⟩, g4⟩ := (r.1 q hq).2 g p e he
      have hp : p < 12 := by have h1 := (List.getElem?_eq_some_iff.mp he).1; have h2 := (hrn q hq).1; omega
      obtain ⟨v1, v2⟩ := w1 (12 * q + p) (by omega)
      refine ⟨⟨b, g1, by rw [v1]; exact g2, g3.fb f (by decide)⟩, ?_⟩
      rw [v2, f 134 _ rfl]
      exact g4⟩, fun v => by rw [f _ _ rfl]; exact r.2 v⟩
    exact hy n0 hx h1 h2 h3 h4 I' (f.mono (V0_yM (by decide))) ⟨⟨⟨z, fun k hk => by omega⟩, s.fr f (by decide), r2, k.fr f (by decide)⟩, ⟨m.fr f (by decide), n.fr f (by decide), p.fr f (by decide), by rw [f _ _ rfl]; exact ft⟩, nt.fr f (by decide), d.fr f (by decide), by rw [z2, ldOf_len], fun k x hk => by
      obtain ⟨g1, g2⟩ := ldOf_get hk
      rw [g2]
      exact lq k g1⟩
set_option maxRecDepth 100000 in
theorem m_worn {x1 : Int32} (hrn : RNSok rn) (hb : BSsok sz bs) (hC : MS I sz bs bd rn ks ml mn es ft nt nk dn made ld)
    (hn : ¬ (tkOk sz bs ∧ ∃ r : Nat, r < 4 ∧ x1 = zI r ∧ 0 < (rn r).length) → ∀ I' : II, FrI yM I I' → MS I' 0 bs bd rn ks ml mn es ft nt nk dn made ld → Q (some (vI (zI (-1)))) I' Lg R (GM gc))
    (hy : ∀ r : Nat, r < 4 → x1 = zI r → 0 < (rn r).length → tkOk sz bs → ∀ I' : II, FrI yM I I' → MS I' 0 bs bd rn ks ml mn es ft nt nk dn made ld → Q (some (vI (zI (wornA (rn r) (sz / 2) (tkv bs))))) I' Lg R (GM gc)) :
    am_Sp Γ (d + 4) 0 0 mX12_worn [vR 12 0, vI x1] I Lg R (GM gc) Q := by
  obtain ⟨⟨t, s, r, k⟩, ⟨m, n, p, ft⟩, nt, d, la⟩ := hC
  refine s_mworn hrn r hb t (fun hno I' f _ z => ?_) (fun r0 hr0 hx h1 h2 I' f _ z l0 => ?_)
  · exact hn hno I' (f.mono (V0_yM (by decide))) ⟨⟨⟨z, fun k hk => by omega⟩, s.fr f (by decide), r.fr f (by decide), k.fr f (by decide)⟩, ⟨m.fr f (by decide), n.fr f (by decide), p.fr f (by decide), by rw [f _ _ rfl]; exact ft⟩, nt.fr f (by decide), d.fr f (by decide), la.fr f (by decide)⟩
  · have r2 : MRunsAt I' rn := ⟨fun q hq => ⟨by rw [f _ _ rfl]; exact (r.1 q hq).1, fun g => ((r.1 q hq).2 g).fr f (by decide)⟩, l0⟩
    exact hy r0 hr0 hx h1 h2 I' (f.mono (V0_yM (by decide))) ⟨⟨⟨z, fun k hk => by omega⟩, s.fr f (by decide), r2, k.fr f (by decide)⟩, ⟨m.fr f (by decide), n.fr f (by decide), p.fr f (by decide), by rw [f _ _ rfl]; exact ft⟩, nt.fr f (by decide), d.fr f (by decide), la.fr f (by decide)⟩
end MOPS

/-! A tick of a ball in the reference. -/
def MBoardAt (I : II) (b : Nat) (x : BD) : Prop := (∃ len : Int, x.1 = 64 * len ∧ I 126 0 b = zI len) ∧ I 127 0 b = zI x.2.1 ∧ I 128 0 b = zI x.2.2.1 ∧ I 129 0 b = zI x.2.2.2.1 ∧ I 130 0 b = zI x.2.2.2.2
def MRunG (I : II) (r : Nat) (g : Int32) (rn : RUN) : Prop := ∀ (p : Nat) (e : BD × Int × Int), rn[p]? = some e → (∃ b : Nat, b < 16 ∧ I 132 0 (12 * r + p) = zI b ∧ MBoardAt I b e.1) ∧ (if gb g p = 0 then I 133 0 (12 * r + p) = zI e.2.1 else I 134 0 (12 * r + p) = zI e.2.2)
abbrev mrv : List Nat := [132, 133, 134, 126, 127, 128, 129, 130]
theorem MBoardAt.fr {I I' : II} {b : Nat} {x : BD} {P : Nat → Nat → Bool} (h : MBoardAt I b x) (hf : FrI P I I') (hP : ∀ v ∈ mrv, P v 0 = false) : MBoardAt I' b x := by
  obtain ⟨⟨len, h0, h1⟩, h2, h3, h4, h5⟩ := h
  refine ⟨⟨len, h0, ?_⟩, ?_, ?_, ?_, ?_⟩ <;> rw [hf _ _ (hP _ (by decide))] <;> assumption
theorem MRunG.fr {I I' : II} {r : Nat} {g : Int32} {rn : RUN} {P : Nat → Nat → Bool} (h : MRunG I r g rn) (hf : FrI P I I') (hP : ∀ v ∈ mrv, P v 0 = false) : MRunG I' r g rn := by
  intro p e he
  obtain ⟨⟨b, hb, h1, h2⟩, h3⟩ := h p e he
  refine ⟨⟨b, hb, by rw [hf _ _ (hP _ (by decide))]; exact h1, h2.fr hf hP⟩, ?_⟩
  rw [hf _ _ (hP 133 (by decide)), hf _ _ (hP 134 (by decide))]
  exact h3
theorem V0_out {l vs : List Nat} (h : vs.all (fun v => !l.elem v) = true) : ∀ v ∈ vs, V0 l v 0 = false := by
  intro v hv
  have h1 := List.all_eq_true.mp h v hv
  unfold V0
  cases he : l.elem v
  · rfl
  · rw [he] at h1; cases h1
/-- the ball that the reference moves: place, part, speed, strength, jumped -/
def MSt (I : II) (pl pt sp st jm : Int) : Prop := I 50 0 0 = zI pl ∧ I 51 0 0 = zI pt ∧ I 52 0 0 = zI sp ∧ I 53 0 0 = zI st ∧ I 54 0 0 = zI jm
abbrev msv : List Nat := [50, 51, 52, 53, 54]
theorem ix12 {r p : Nat} (hr : r ≤ 4) (hp : p < 12) : (zI 12 * zI r + zI p).toInt = ((12 * r + p : Nat) : Int) := by
  rw [zI_mul, zI_add, zI_toInt (by omega) (by omega)]
  omega
set_option maxRecDepth 100000 in
theorem s_lengthAt {Γ : AMG} {Q : QQ} {d r : Nat} {xr xp g : Int32} {p : Nat} {e : BD × Int × Int} {I : II} {Lg : LJ} {R : RR} {gc : Nat → Nat} {rn : RUN} (hrn : RUNok rn) (hM : MRunG I r g rn) (hr : r ≤ 4) (hxr : xr = zI r) (hxp : xp = zI p) (he : rn[p]? = some e) (h : Q (some (vI (zI e.1.1))) I Lg R (GM gc)) : am_Sp Γ d 0 0 mX12_lengthAt [vR 12 0, vI xr, vI xp] I Lg R (GM gc) Q := by
  have hp : p < rn.length := (List.getElem?_eq_some_iff.mp he).1
  have hlen := hrn.1
  obtain ⟨⟨b, hb, h1, ⟨len, h0, h2⟩, -⟩, -⟩ := hM p e he
  have hix := ix12 (r := r) (p := p) hr (by omega)
  refine am_run vX12_lengthAt 60 _ rfl rfl rfl rfl ?_
  subst hxr
  subst hxp
  refine And.intro ⟨by rw [hix]; omega, by rw [hix]; omega⟩ ?_
  rw [hix, Int.toNat_natCast, h1]
  refine And.intro ⟨by rw [zI_toInt (by omega) (by omega)]; omega, by rw [zI_toInt (by omega) (by omega)]; omega⟩ ?_
  rw [zI_toInt (by omega) (by omega), Int.toNat_natCast, h2]
  show Q (some (vI (zI 64 * zI len))) I Lg R (GM gc)
  rw [zI_mul, ← h0]
  exact h
set_option maxRecDepth 100000 in
theorem s_nextOf {Γ : AMG} {Q : QQ} {d r : Nat} {xr xp g : Int32} {p : Nat} {e : BD × Int × Int} {I : II} {Lg : LJ} {R : RR} {gc : Nat → Nat} {rn : RUN} (hrn : RUNok rn) (hM : MRunG I r g rn) (hr : r ≤ 4) (hxr : xr = zI r) (hxp : xp = zI p) (he : rn[p]? = some e) (h : Q (some (vI (zI (nx rn g p)))) I Lg R (GM gc)) : am_Sp Γ d 0 0 mX12_nextOf [vR 12 0, vI xr, vI xp, vI g] I Lg R (GM gc) Q := by
  have hp : p < rn.length := (List.getElem?_eq_some_iff.mp he).1
  have hlen := hrn.1
  obtain ⟨-, h3⟩ := hM p e he
  have hix := ix12 (r := r) (p := p) hr (by omega)
  have h01 := gb_01 g p
  unfold nx at h
  rw [Int.toNat_natCast, he] at h
  dsimp only at h
  subst hxr
  subst hxp
  have hbit : (g >>> (zI p &&& 31)) &&& zI 1 = zI (gb g p) := gb_s (by omega)
  refine am_run vX12_nextOf 60 _ rfl rfl rfl rfl ?_
  refine And.intro (fun c => ?_) (fun c => ?_)
  · rw [hbit, zI_toInt (by omega) (by omega), zI_toInt (by omega) (by omega)] at c
    rw [if_pos (by omega)] at h3 h
    refine And.intro ⟨by rw [hix]; omega, by rw [hix]; omega⟩ ?_
    rw [hix, Int.toNat_natCast, h3]
    exact h
  · rw [hbit, zI_toInt (by omega) (by omega), zI_toInt (by omega) (by omega)] at c
    rw [if_neg (by omega)] at h3 h
    refine And.intro ⟨by rw [hix]; omega, by rw [hix]; omega⟩ ?_
    rw [hix, Int.toNat_natCast, h3]
    exact h
theorem mstep_loop {Γ : AMG} {Q : QQ} {d r : Nat} {xr g : Int32} {l3 l4 : Option AV} {I : II} {Lg : LJ} {R : RR} {gc : Nat → Nat} {rn : RUN} {sp st : Int} (hrn : RUNok rn) (hM : MRunG I r g rn) (hr : r ≤ 4) (hxr : xr = zI r) :
    ∀ (m : Nat) (p t j : Int) (I1 : II), (p = 255 ∨ (0 ≤ p ∧ p < rn.length ∧ 12 ≤ p + m)) → 0 ≤ t → t ≤ 1000000 → FrI (V0 msv) I I1 → MSt I1 p t sp st j →
      (∀ I' : II, FrI (V0 msv) I I' → MSt I' (land rn g m p t).1 (land rn g m p t).2.1 sp st (j + (land rn g m p t).2.2) → Q none I' Lg R (GM gc)) →
      am_J Γ mX12_step Q (d + 1) 0 0 228 [some (vR 12 0), some (vI xr), some (vI g), none, none] [] I1 Lg R (GM gc) := by
  intro m
  induction m with
  | zero =>
    intro p t j I1 hp ht0 ht1 hf hs h
    have h255 : p = 255 := by have := hrn.1; omega
    have hpl : (I1 50 0 0).toInt = p := by rw [hs.1, zI_toInt (by omega) (by omega)]
    refine am_go vX12_step 60 ?_
    refine And.intro (fun c => ?_) (fun c => ?_)
    · refine h I1 hf ?_
      have := hs
      unfold land
      simpa using this
    · rw [hpl, zI_toInt (by omega) (by omega)] at c
      exact absurd h255 c
  | succ m ih =>
    intro p t j I1 hp ht0 ht1 hf hs h
    have hlen := hrn.1
    have hpl : (I1 50 0 0).toInt = p := by rw [hs.1, zI_toInt (by omega) (by omega)]
    have hM1 : MRunG I1 r g rn := hM.fr hf (V0_out (by decide))
    refine am_go vX12_step 60 ?_
    refine And.intro (fun c => ?_) (fun c => ?_)
    · rw [hpl, zI_toInt (by omega) (by omega)] at c
      refine h I1 hf ?_
      have := hs
      unfold land
      rw [List.getElem?_eq_none (by omega)]
      simpa using this
    · rw [hpl, zI_toInt (by omega) (by omega)] at c
      have hp2 : 0 ≤ p ∧ p < rn.length ∧ 12 ≤ p + ((m + 1 : Nat) : Int) := hp.resolve_left c
      have hpn : p = ((p.toNat : Nat) : Int) := by omega
      have he : rn[p.toNat]? = some rn[p.toNat] := List.getElem?_eq_getElem (by omega)
      generalize rn[p.toNat] = e at he
      have hbk := (hrn.2 _ e he).1
      have hpt : (I1 51 0 0).toInt = t := by rw [hs.2.1, zI_toInt (by omega) (by omega)]
      refine s_lengthAt hrn hM1 hr hxr (by rw [hs.1, ← hpn]) he ?_
      refine And.intro (fun c2 => ?_) (fun c2 => ?_)
      · rw [hpt, zI_toInt (by have := hbk.1; omega) (by have := hbk.2.1; omega)] at c2
        refine h I1 hf ?_
        unfold land
        rw [he]
        dsimp only
        rw [if_pos c2]
        simpa using hs
      · rw [hpt, zI_toInt (by have := hbk.1; omega) (by have := hbk.2.1; omega)] at c2
        refine s_lengthAt hrn hM1 hr hxr (by rw [hs.1, ← hpn]) he ?_
        have hfa : FrI (V0 msv) I1 (up3 I1 51 0 0 (I1 51 0 0 - zI e.1.1)) := FrI.rf.up rfl
        refine s_nextOf hrn (hM1.fr hfa (V0_out (by decide))) hr hxr (by rw [up3_v _ (by decide), hs.1, ← hpn]) he ?_
        rw [← hpn]
        have hx := nx_255 (g := g) (p := p) hrn
        have hx2 := nx_rng (g := g) (p := p) hrn hp2.1
        have hx3 : nx rn g p = 255 ∨ nx rn g p < rn.length := by
          unfold nx
          rw [he]
          obtain ⟨-, q2, q3⟩ := hrn.2 _ e he
          unfold goOk at q2 q3
          dsimp only
          split <;> omega
        refine ih (nx rn g p) (t - e.1.1) (j + 1) _ (by omega) (by omega) (by have := hbk.1; omega) (((hf.tr hfa).up rfl).up rfl) ?_ (fun I' f' s' => ?_)
        · refine ⟨?_, ?_, ?_, ?_, ?_⟩
          · rw [up3_v _ (by decide), up3_s]
          · rw [up3_v _ (by decide), up3_v _ (by decide), up3_s, hs.2.1, zI_sub]
          · rw [up3_v _ (by decide), up3_v _ (by decide), up3_v _ (by decide)]; exact hs.2.2.1
          · rw [up3_v _ (by decide), up3_v _ (by decide), up3_v _ (by decide)]; exact hs.2.2.2.1
          · rw [up3_s, up3_v _ (by decide), up3_v _ (by decide), hs.2.2.2.2, zI_add]
        · refine h I' f' ?_
          unfold land
          rw [he]
          dsimp only
          rw [if_neg (by omega)]
          dsimp only
          rw [show j + (((land rn g m (nx rn g p) (t - e.1.1)).2.2 + 1 : Nat) : Int) = j + 1 + ((land rn g m (nx rn g p) (t - e.1.1)).2.2 : Int) by omega]
          exact s'
/-- a tick: place, part, speed, strength, jumped; ls: how much less the steps drop -/
def tickB (rn : RUN) (g : Int32) (ls : Nat → Int) (pl pt sp : Int) : Int × Int × Int × Int × Nat := match rn[pl.toNat]? with
  | none => (pl, pt, sp, 0, 0)
  | some e => if pt + spd e.1 sp < e.1.1 then (pl, pt + spd e.1 sp, spd e.1 sp, 0, 0) else
    ((land rn g 12 (nx rn g pl) (lvP e.1 (max 0 (e.1.2.2.2.1 - ls pl.toNat)) (pt + spd e.1 sp) (spd e.1 sp))).1, (land rn g 12 (nx rn g pl) (lvP e.1 (max 0 (e.1.2.2.2.1 - ls pl.toNat)) (pt + spd e.1 sp) (spd e.1 sp))).2.1, lvS e.1 (spd e.1 sp), lvK (max 0 (e.1.2.2.2.1 - ls pl.toNat)) (spd e.1 sp), (land rn g 12 (nx rn g pl) (lvP e.1 (max 0 (e.1.2.2.2.1 - ls pl.toNat)) (pt + spd e.1 sp) (spd e.1 sp))).2.2)
/-- the state of a ball on its run -/
def BSok (rn : RUN) (pl pt sp : Int) : Prop := 0 ≤ pl ∧ pl < rn.length ∧ 0 ≤ pt ∧ pt ≤ 2560 ∧ 0 ≤ sp ∧ sp ≤ 1023
theorem lvP_rng {b : BD} {dr p s : Int} (hb : BDok b) (h0 : 0 ≤ dr) (h1 : dr ≤ 9) (h2 : 0 ≤ s) (h3 : s ≤ 1023) (h4 : b.1 ≤ p) (h5 : p ≤ 10000) : 0 ≤ lvP b dr p s ∧ lvP b dr p s ≤ 12000 := by
  have hl := lvS_rng hb h2
  have hd := dr_rng h0 h1 hl.1 (by omega)
  have := hb.1
  unfold lvP
  omega
theorem MSt.ups {I : II} {pl pt sp st jm : Int} (h : MSt I pl pt sp st jm) {x : Int32} {a : Int} (hx : x = zI a) : MSt (up3 I 52 0 0 x) pl pt a st jm := by
  obtain ⟨h1, h2, h3, h4, h5⟩ := h
  refine ⟨?_, ?_, by rw [up3_s, hx], ?_, ?_⟩
  · rw [up3_v _ (by decide)]; exact h1
  · rw [up3_v _ (by decide)]; exact h2
  · rw [up3_v _ (by decide)]; exact h4
  · rw [up3_v _ (by decide)]; exact h5
/-- behind the step's drop: from 'strength = ..' on -/
theorem mstep_D {Γ : AMG} {Q : QQ} {d r : Nat} {xr g x3 x4 : Int32} {I I1 : II} {Lg : LJ} {R : RR} {gc : Nat → Nat} {rn : RUN} {pl pt s1 st0 jm dr : Int} {b : Nat} {e : BD × Int × Int} (hrn : RUNok rn) (hM : MRunG I r g rn) (hr : r ≤ 4) (hxr : xr = zI r) (hpl0 : 0 ≤ pl) (hpt0 : e.1.1 ≤ pt) (hpt1 : pt ≤ 10000) (hs0 : 0 ≤ s1) (hs1 : s1 ≤ 1023) (hd0 : 0 ≤ dr) (hd1 : dr ≤ 9) (hx4 : x4 = zI dr) (he : rn[pl.toNat]? = some e) (hb : b < 16) (hx3 : x3 = zI b) (hMB : MBoardAt I b e.1)
    (hf : FrI (V0 msv) I I1) (hs : MSt I1 pl pt s1 st0 jm)
    (h : ∀ I' : II, FrI (V0 msv) I I' → MSt I' (land rn g 12 (nx rn g pl) (lvP e.1 dr pt s1)).1 (land rn g 12 (nx rn g pl) (lvP e.1 dr pt s1)).2.1 (lvS e.1 s1) (lvK dr s1) (jm + (land rn g 12 (nx rn g pl) (lvP e.1 dr pt s1)).2.2) → Q none I' Lg R (GM gc)) :
    am_J Γ mX12_step Q (d + 1) 0 0 148 [some (vR 12 0), some (vI xr), some (vI g), some (vI x3), some (vI x4)] [] I1 Lg R (GM gc) := by
  have hbk := (hrn.2 _ e he).1
  have hln := lvS_rng hbk hs0
  have hdr := dr_rng hd0 hd1 hs0 hs1
  have hdr2 := dr_rng hd0 hd1 hln.1 (by omega : lvS e.1 s1 ≤ 1023)
  have hP := lvP_rng hbk hd0 hd1 hs0 hs1 hpt0 hpt1
  have hpn : pl = ((pl.toNat : Nat) : Int) := by omega
  have hlt : pl.toNat < rn.length := (List.getElem?_eq_some_iff.mp he).1
  have hlen := hrn.1
  obtain ⟨q1, q2, q3, q4, q5⟩ := hs
  obtain ⟨-, -, -, -, m5⟩ := id hMB
  have g9 := hbk.2.2.2.2.2.2.2.2.1
  have g10 := hbk.2.2.2.2.2.2.2.2.2
  have e9 : 0 ≤ s1 * e.1.2.2.2.2 := Int.mul_nonneg hs0 g9
  have e10 : s1 * e.1.2.2.2.2 ≤ s1 * 8 := Int.mul_le_mul_of_nonneg_left g10 hs0
  refine am_goN vX12_step 80 ?_
  refine And.intro (by rw [zI_toInt (by omega) (by omega)]; omega) ?_
  refine fun y1 ey1 I2 e2 => ?_
  have hf2 : FrI (V0 msv) I I2 := by rw [e2]; exact hf.up rfl
  refine And.intro ⟨by rw [hx3, zI_toInt (by omega) (by omega)]; omega, by rw [hx3, zI_toInt (by omega) (by omega)]; omega⟩ ?_
  refine And.intro (by rw [zI_toInt (by omega) (by omega)]; omega) ?_
  refine fun y3 ey3 I3 e3 => ?_
  have hf3 : FrI (V0 msv) I I3 := by rw [e3]; exact hf2.up rfl
  refine And.intro (by rw [zI_toInt (by omega) (by omega)]; omega) ?_
  have r3 : y3 = zI (lvS e.1 s1) := by
    rw [ey3, e2, up3_v _ (by decide), up3_v _ (by decide), q3, hx3, zI_toInt (by omega) (by omega), Int.toNat_natCast, hf _ _ rfl, m5, zI_mul, zI_divN e9 (by omega) (by omega) (by omega), zI_sub]
    rfl
  have p3 : I3 50 0 0 = zI ((pl.toNat : Nat) : Int) := by rw [e3, up3_v _ (by decide), e2, up3_v _ (by decide), q1, ← hpn]
  refine s_lengthAt hrn (hM.fr hf3 (V0_out (by decide))) hr hxr p3 he ?_
  refine fun y4 ey4 I4 e4 => ?_
  have hf4 : FrI (V0 msv) I I4 := by rw [e4]; exact hf3.up rfl
  have p4 : I4 50 0 0 = zI ((pl.toNat : Nat) : Int) := by rw [e4, up3_v _ (by decide), p3]
  refine s_nextOf hrn (hM.fr hf4 (V0_out (by decide))) hr hxr p4 he ?_
  rw [← hpn]
  refine fun y5 ey5 I5 e5 => ?_
  have hf5 : FrI (V0 msv) I I5 := by rw [e5]; exact hf4.up rfl
  have hx := nx_255 (g := g) (p := pl) hrn
  have hx2 := nx_rng (g := g) (p := pl) hrn hpl0
  have hx3' : nx rn g pl = 255 ∨ nx rn g pl < rn.length := by
    unfold nx
    rw [he]
    obtain ⟨-, q2, q3⟩ := hrn.2 _ e he
    unfold goOk at q2 q3
    dsimp only
    split <;> omega
  refine am_J.drop (L' := [some (vR 12 0), some (vI xr), some (vI g), none, none]) rfl (fun i v hi => ?_) (mstep_loop (l3 := none) (l4 := none) hrn hM hr hxr 12 (nx rn g pl) (lvP e.1 dr pt s1) jm I5 (by omega) hP.1 (by omega) hf5 ?_ h)
  · match i, hi with
    | 0, hi => exact hi
    | 1, hi => exact hi
    | 2, hi => exact hi
    | 3, hi => cases hi
    | 4, hi => cases hi
    | _ + 5, hi => cases hi
  refine ⟨?_, ?_, ?_, ?_, ?_⟩
  · rw [e5, up3_s, ey5]
  · rw [e5, up3_v _ (by decide), e4, up3_s, ey4, e3, up3_s, up3_v _ (by decide), e2, up3_v _ (by decide), q2, r3, hx4, zI_mul, zI_divN hdr2.1 (by omega) (by omega) (by omega), zI_sub, zI_add]
    rfl
  · rw [e5, up3_v _ (by decide), e4, up3_v _ (by decide), e3, up3_s, r3]
  · rw [e5, up3_v _ (by decide), e4, up3_v _ (by decide), e3, up3_v _ (by decide), e2, up3_s, ey1, hx4, q3, zI_mul, zI_divN hdr.1 (by omega) (by omega) (by omega)]
    rfl
  · rw [e5, up3_v _ (by decide), e4, up3_v _ (by decide), e3, up3_v _ (by decide), e2, up3_v _ (by decide), q5]
/-- behind the speed's bounds: from 'part += speed' on -/
theorem mstep_C {Γ : AMG} {Q : QQ} {d r : Nat} {xr g x3 : Int32} {I I1 : II} {Lg : LJ} {R : RR} {gc : Nat → Nat} {rn : RUN} {ls : Nat → Int} {pl pt s1 jm : Int} {b : Nat} {e : BD × Int × Int} (hrn : RUNok rn) (hM : MRunG I r g rn) (hls : ∀ p, p < 12 → I 135 0 (12 * r + p) = zI (ls p) ∧ 0 ≤ ls p ∧ ls p ≤ 1) (hr : r ≤ 4) (hxr : xr = zI r) (hpl0 : 0 ≤ pl) (hpt0 : 0 ≤ pt) (hpt1 : pt ≤ 2560) (hs0 : 0 ≤ s1) (hs1 : s1 ≤ 1023) (he : rn[pl.toNat]? = some e) (hb : b < 16) (hx3 : x3 = zI b) (hMB : MBoardAt I b e.1)
    (hf : FrI (V0 msv) I I1) (hs : MSt I1 pl pt s1 0 jm)
    (h : ∀ I' : II, FrI (V0 msv) I I' → (if pt + s1 < e.1.1 then MSt I' pl (pt + s1) s1 0 jm else MSt I' (land rn g 12 (nx rn g pl) (lvP e.1 (max 0 (e.1.2.2.2.1 - ls pl.toNat)) (pt + s1) s1)).1 (land rn g 12 (nx rn g pl) (lvP e.1 (max 0 (e.1.2.2.2.1 - ls pl.toNat)) (pt + s1) s1)).2.1 (lvS e.1 s1) (lvK (max 0 (e.1.2.2.2.1 - ls pl.toNat)) s1) (jm + (land rn g 12 (nx rn g pl) (lvP e.1 (max 0 (e.1.2.2.2.1 - ls pl.toNat)) (pt + s1) s1)).2.2)) → Q none I' Lg R (GM gc)) :
    am_J Γ mX12_step Q (d + 1) 0 0 87 [some (vR 12 0), some (vI xr), some (vI g), some (vI x3), none] [] I1 Lg R (GM gc) := by
  have hbk := (hrn.2 _ e he).1
  have hpn : pl = ((pl.toNat : Nat) : Int) := by omega
  have hlt : pl.toNat < rn.length := (List.getElem?_eq_some_iff.mp he).1
  have hlen := hrn.1
  obtain ⟨q1, q2, q3, q4, q5⟩ := hs
  obtain ⟨-, -, -, m4, -⟩ := id hMB
  obtain ⟨l1, l2, l3⟩ := hls pl.toNat (by omega)
  have b1 := hbk.1
  have b2 := hbk.2.1
  have b8 := hbk.2.2.2.2.2.2.1
  have b9 := hbk.2.2.2.2.2.2.2.1
  refine am_goN vX12_step (33 - 1) ?_
  refine fun y1 ey1 I2 e2 => ?_
  have hf2 : FrI (V0 msv) I I2 := by rw [e2]; exact hf.up rfl
  have r1 : y1 = zI (pt + s1) := by rw [ey1, q2, q3, zI_add]
  have hs2 : MSt I2 pl (pt + s1) s1 0 jm := by
    refine ⟨?_, ?_, ?_, ?_, ?_⟩
    · rw [e2, up3_v _ (by decide), q1]
    · rw [e2, up3_s, r1]
    · rw [e2, up3_v _ (by decide), q3]
    · rw [e2, up3_v _ (by decide), q4]
    · rw [e2, up3_v _ (by decide), q5]
  refine s_lengthAt hrn (hM.fr hf2 (V0_out (by decide))) hr hxr (by rw [hs2.1, ← hpn]) he ?_
  refine And.intro (fun c => ?_) (fun c => ?_)
  · rw [hs2.2.1, zI_toInt (by omega) (by omega), zI_toInt (by omega) (by omega)] at c
    refine And.intro ⟨by rw [hx3, zI_toInt (by omega) (by omega)]; omega, by rw [hx3, zI_toInt (by omega) (by omega)]; omega⟩ ?_
    have hix : (zI 12 * xr + I2 50 0 0).toInt = ((12 * r + pl.toNat : Nat) : Int) := by
      rw [hxr, hs2.1, hpn]
      exact ix12 hr (by omega)
    refine And.intro ⟨by rw [hix]; omega, by rw [hix]; omega⟩ ?_
    rw [hix, Int.toNat_natCast, hf2 _ _ rfl, hf2 _ _ rfl, hx3, zI_toInt (by omega) (by omega), Int.toNat_natCast, m4, l1]
    refine fun y4 ey4 => ?_
    rw [zI_sub] at ey4
    have fin : ∀ x4 : Int32, x4 = zI (max 0 (e.1.2.2.2.1 - ls pl.toNat)) → am_J Γ mX12_step Q (d + 1) 0 0 148 [some (vR 12 0), some (vI xr), some (vI g), some (vI (zI b)), some (vI x4)] [] I2 Lg R (GM gc) := fun x4 hx4 =>
      mstep_D hrn hM hr hxr hpl0 c (by omega) hs0 hs1 (by omega) (by omega) hx4 he hb rfl hMB hf2 hs2 (fun I' f' s' => h I' f' (by rw [if_neg (by omega)]; exact s'))
    refine And.intro (fun c4 => ?_) (fun c4 => ?_)
    · rw [ey4, zI_toInt (by omega) (by omega)] at c4
      exact fin y4 (by rw [ey4]; congr 1; omega)
    · rw [ey4, zI_toInt (by omega) (by omega)] at c4
      refine am_goN vX12_step 2 ?_
      refine fun y5 ey5 => ?_
      exact fin y5 (by rw [ey5]; congr 1; omega)
  · rw [hs2.2.1, zI_toInt (by omega) (by omega), zI_toInt (by omega) (by omega)] at c
    exact h I2 hf2 (by rw [if_pos c]; exact hs2)

/-- behind the slope: from 'speed -= ..' on -/
theorem mstep_B {Γ : AMG} {Q : QQ} {d r : Nat} {xr g x3 : Int32} {I I1 : II} {Lg : LJ} {R : RR} {gc : Nat → Nat} {rn : RUN} {ls : Nat → Int} {pl pt s0 jm : Int} {b : Nat} {e : BD × Int × Int} (hrn : RUNok rn) (hM : MRunG I r g rn) (hls : ∀ p, p < 12 → I 135 0 (12 * r + p) = zI (ls p) ∧ 0 ≤ ls p ∧ ls p ≤ 1) (hr : r ≤ 4) (hxr : xr = zI r) (hpl0 : 0 ≤ pl) (hpt0 : 0 ≤ pt) (hpt1 : pt ≤ 2560) (hs0 : 0 ≤ s0) (hs1 : s0 ≤ 2000) (he : rn[pl.toNat]? = some e) (hb : b < 16) (hx3 : x3 = zI b) (hMB : MBoardAt I b e.1)
    (hf : FrI (V0 msv) I I1) (hs : MSt I1 pl pt s0 0 jm) {s1 : Int} (hse : s1 = min 1023 (s0 - s0 * e.1.2.2.1 / 64))
    (h : ∀ I' : II, FrI (V0 msv) I I' → (if pt + s1 < e.1.1 then MSt I' pl (pt + s1) s1 0 jm else MSt I' (land rn g 12 (nx rn g pl) (lvP e.1 (max 0 (e.1.2.2.2.1 - ls pl.toNat)) (pt + s1) s1)).1 (land rn g 12 (nx rn g pl) (lvP e.1 (max 0 (e.1.2.2.2.1 - ls pl.toNat)) (pt + s1) s1)).2.1 (lvS e.1 s1) (lvK (max 0 (e.1.2.2.2.1 - ls pl.toNat)) s1) (jm + (land rn g 12 (nx rn g pl) (lvP e.1 (max 0 (e.1.2.2.2.1 - ls pl.toNat)) (pt + s1) s1)).2.2)) → Q none I' Lg R (GM gc)) :
    am_J Γ mX12_step Q (d + 1) 0 0 47 [some (vR 12 0), some (vI xr), some (vI g), some (vI x3), none] [] I1 Lg R (GM gc) := by
  have hbk := (hrn.2 _ e he).1
  obtain ⟨-, -, m3, -, -⟩ := id hMB
  obtain ⟨g1, g2, g3, g4, g5, g6, -⟩ := id hbk
  have hpr := prod_rng (f := s0) (r := e.1.2.2.1) (A := 2000) (B := 15) (by omega) (by omega) g5 g6 (by omega)
  have hmd := mul_div_le hs0 g5 (by omega)
  have hp0 : 0 ≤ s0 * e.1.2.2.1 := Int.mul_nonneg hs0 g5
  refine am_goN vX12_step 18 ?_
  refine And.intro ⟨by rw [hx3, zI_toInt (by omega) (by omega)]; omega, by rw [hx3, zI_toInt (by omega) (by omega)]; omega⟩ ?_
  refine And.intro (by rw [zI_toInt (by omega) (by omega)]; omega) ?_
  refine fun y1 ey1 I2 e2 => ?_
  have hf2 : FrI (V0 msv) I I2 := by rw [e2]; exact hf.up rfl
  have r1 : y1 = zI (s0 - s0 * e.1.2.2.1 / 64) := by rw [ey1, hs.2.2.1, hx3, zI_toInt (by omega) (by omega), Int.toNat_natCast, hf _ _ rfl, m3, zI_mul, zI_divN hp0 (by omega) (by omega) (by omega), zI_sub]
  have hs2 : MSt I2 pl pt (s0 - s0 * e.1.2.2.1 / 64) 0 jm := by rw [e2]; exact hs.ups r1
  refine And.intro (fun c => ?_) (fun c => ?_)
  · rw [hs2.2.2.1, zI_toInt (by omega) (by omega), zI_toInt (by omega) (by omega)] at c
    exact mstep_C hrn hM hls hr hxr hpl0 hpt0 hpt1 (by omega) (by omega) he hb hx3 hMB hf2 (by rw [hse, Int.min_eq_right c]; exact hs2) h
  · rw [hs2.2.2.1, zI_toInt (by omega) (by omega), zI_toInt (by omega) (by omega)] at c
    refine am_goN vX12_step 3 ?_
    refine fun y2 ey2 I3 e3 => ?_
    exact mstep_C hrn hM hls hr hxr hpl0 hpt0 hpt1 (by omega) (by omega) he hb hx3 hMB (by rw [e3]; exact hf2.up rfl) (by rw [hse, Int.min_eq_left (by omega), e3]; exact hs2.ups ey2) h
set_option maxRecDepth 100000 in
theorem s_step {Γ : AMG} {Q : QQ} {d r : Nat} {xr g : Int32} {I : II} {Lg : LJ} {R : RR} {gc : Nat → Nat} {rn : RUN} {ls : Nat → Int} {pl pt sp st jm : Int} (hrn : RUNok rn) (hM : MRunG I r g rn) (hls : ∀ p, p < 12 → I 135 0 (12 * r + p) = zI (ls p) ∧ 0 ≤ ls p ∧ ls p ≤ 1) (hr : r ≤ 4) (hxr : xr = zI r) (hbs : BSok rn pl pt sp) (hs : MSt I pl pt sp st jm)
    (h : ∀ I' : II, FrI (V0 msv) I I' → MSt I' (tickB rn g ls pl pt sp).1 (tickB rn g ls pl pt sp).2.1 (tickB rn g ls pl pt sp).2.2.1 (tickB rn g ls pl pt sp).2.2.2.1 (jm + (tickB rn g ls pl pt sp).2.2.2.2) → Q none I' Lg R (GM gc)) :
    am_Sp Γ (d + 1) 0 0 mX12_step [vR 12 0, vI xr, vI g] I Lg R (GM gc) Q := by
  obtain ⟨hp0, hp1, ht0, ht1, hs0, hs1⟩ := hbs
  have hpn : pl = ((pl.toNat : Nat) : Int) := by omega
  have hlen := hrn.1
  have he : rn[pl.toNat]? = some rn[pl.toNat] := List.getElem?_eq_getElem (by omega)
  generalize rn[pl.toNat] = e at he
  have hbk := (hrn.2 _ e he).1
  obtain ⟨g1, g2, g3, g4, g5, g6, -⟩ := id hbk
  obtain ⟨⟨b, hb, hbd, hMB⟩, -⟩ := hM _ e he
  obtain ⟨-, m2, -⟩ := id hMB
  have hsp := spd_rng (s := sp) hbk
  have h' : ∀ I' : II, FrI (V0 msv) I I' → (if pt + spd e.1 sp < e.1.1 then MSt I' pl (pt + spd e.1 sp) (spd e.1 sp) 0 jm else MSt I' (land rn g 12 (nx rn g pl) (lvP e.1 (max 0 (e.1.2.2.2.1 - ls pl.toNat)) (pt + spd e.1 sp) (spd e.1 sp))).1 (land rn g 12 (nx rn g pl) (lvP e.1 (max 0 (e.1.2.2.2.1 - ls pl.toNat)) (pt + spd e.1 sp) (spd e.1 sp))).2.1 (lvS e.1 (spd e.1 sp)) (lvK (max 0 (e.1.2.2.2.1 - ls pl.toNat)) (spd e.1 sp)) (jm + (land rn g 12 (nx rn g pl) (lvP e.1 (max 0 (e.1.2.2.2.1 - ls pl.toNat)) (pt + spd e.1 sp) (spd e.1 sp))).2.2)) → Q none I' Lg R (GM gc) := by
    intro I' hf' hm
    refine h I' hf' ?_
    unfold tickB
    rw [he]
    dsimp only
    split at hm
    · next q => rw [if_pos q]; simpa using hm
    · next q => rw [if_neg q]; exact hm
  have hix : (zI 12 * xr + I 50 0 0).toInt = ((12 * r + pl.toNat : Nat) : Int) := by
    rw [hxr, hs.1, hpn]
    exact ix12 hr (by omega)
  refine am_runN vX12_step 25 _ rfl rfl rfl rfl ?_
  refine And.intro ⟨by rw [hix]; omega, by rw [hix]; omega⟩ ?_
  rw [hix, Int.toNat_natCast, hbd]
  refine fun x3 ex3 y1 ey1 I1 e1 => ?_
  have hf1 : FrI (V0 msv) I I1 := by rw [e1]; exact FrI.rf.up rfl
  have hst1 : MSt I1 pl pt sp 0 jm := by
    rw [e1]
    obtain ⟨k1, k2, k3, k4, k5⟩ := hs
    refine ⟨?_, ?_, ?_, by rw [up3_s, ey1], ?_⟩
    · rw [up3_v _ (by decide)]; exact k1
    · rw [up3_v _ (by decide)]; exact k2
    · rw [up3_v _ (by decide)]; exact k3
    · rw [up3_v _ (by decide)]; exact k5
  refine And.intro ⟨by rw [ex3, zI_toInt (by omega) (by omega)]; omega, by rw [ex3, zI_toInt (by omega) (by omega)]; omega⟩ ?_
  refine fun y2 ey2 I2 e2 => ?_
  have hf2 : FrI (V0 msv) I I2 := by rw [e2]; exact hf1.up rfl
  have r2 : y2 = zI (sp + e.1.2.1) := by rw [ey2, hst1.2.2.1, ex3, zI_toInt (by omega) (by omega), Int.toNat_natCast, hf1 _ _ rfl, m2, zI_add]
  have hst2 : MSt I2 pl pt (sp + e.1.2.1) 0 jm := by rw [e2]; exact hst1.ups r2
  refine And.intro (fun c => ?_) (fun c => ?_)
  · rw [hst2.2.2.1, zI_toInt (by omega) (by omega)] at c
    refine mstep_B hrn hM hls hr hxr hp0 ht0 ht1 (s0 := fst9 e.1 sp) (by unfold fst9; omega) (by unfold fst9; omega) he hb ex3 hMB hf2 (by unfold fst9; rw [Int.max_eq_right c]; exact hst2) rfl h'
  · rw [hst2.2.2.1, zI_toInt (by omega) (by omega)] at c
    refine am_goN vX12_step 3 ?_
    refine fun y3 ey3 I3 e3 => ?_
    refine mstep_B hrn hM hls hr hxr hp0 ht0 ht1 (s0 := fst9 e.1 sp) (by unfold fst9; omega) (by unfold fst9; omega) he hb ex3 hMB (I1 := I3) (by rw [e3]; exact hf2.up rfl) (by unfold fst9; rw [Int.max_eq_left (by omega), e3]; exact hst2.ups ey3) rfl h'

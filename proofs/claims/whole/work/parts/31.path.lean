/-! Runs of boards in the class. -/
/-- bit p of the gates -/
def gb (g : Int32) (p : Nat) : Nat := g.toBitVec.toNat / 2 ^ p % 2
theorem gb_01 (g : Int32) (p : Nat) : gb g p = 0 ∨ gb g p = 1 := by unfold gb; omega
theorem gb_u {g : Int32} {p : Nat} (hp : p < 12) : (g.toUInt32 >>> ((zI p).toUInt32 &&& Int32.toUInt32 31)).toInt32 &&& zI 1 = zI (gb g p) := by
  have h1 : ∀ p : Nat, p < 12 → (((zI p).toUInt32 &&& Int32.toUInt32 31).toBitVec % 32).toNat = p := by decide +kernel
  rw [pk_and _ 1 (by decide +kernel), pk_ushr g (zI p) p (h1 p hp)]
  exact (Int32.ofInt_eq_ofNat).symm
theorem gb_s {g : Int32} {p : Nat} (hp : p < 12) : (g >>> (zI p &&& 31)) &&& zI 1 = zI (gb g p) := by
  have h1 : ∀ p : Nat, p < 12 → ((zI p &&& 31).toBitVec.smod 32).toNat = p := by decide +kernel
  have h2 := pk_shr g (zI p &&& 31) p (h1 p hp)
  rw [pk_and _ 1 (by decide +kernel)]
  refine (Int32.ofInt_eq_ofNat).symm.trans ?_
  show zI _ = zI _
  congr 1
  generalize hx : g >>> (zI p &&& 31) = x at h2
  have e1 := BitVec.toInt_eq_toNat_cond x.toBitVec
  have e2 := BitVec.toInt_eq_toNat_cond g.toBitVec
  have e3 : x.toBitVec.toInt = x.toInt := rfl
  have e4 : g.toBitVec.toInt = g.toInt := rfl
  have l1 := x.toBitVec.isLt
  have l2 := g.toBitVec.isLt
  rw [Int.shiftRight_eq_div_pow] at h2
  unfold gb
  have hc : p = 0 ∨ p = 1 ∨ p = 2 ∨ p = 3 ∨ p = 4 ∨ p = 5 ∨ p = 6 ∨ p = 7 ∨ p = 8 ∨ p = 9 ∨ p = 10 ∨ p = 11 := by omega
  rcases hc with rfl | rfl | rfl | rfl | rfl | rfl | rfl | rfl | rfl | rfl | rfl | rfl <;> (split at e1 <;> split at e2 <;> simp only [Nat.reducePow, Int.reducePow] at * <;> omega)
/-- a run: for each place its board, where on, where on with its gate turned -/
abbrev RUN : Type := List (BD × Int × Int)
def goOk (n p : Nat) (t : Int) : Prop := t = 255 ∨ ((p : Int) < t ∧ t < n)
def RUNok (rn : RUN) : Prop := rn.length ≤ 12 ∧ ∀ (p : Nat) (e : BD × Int × Int), rn[p]? = some e → BDok e.1 ∧ goOk rn.length p e.2.1 ∧ goOk rn.length p e.2.2
def PathAt (I : II) (R : RR) (r : Nat) (rn : RUN) : Prop := I 32 r 0 = zI rn.length ∧ ∀ (p : Nat) (e : BD × Int × Int), rn[p]? = some e → (∃ b : Nat, R 1 r p = some b ∧ BoardAt I b e.1) ∧ I 113 r p = zI e.2.1 ∧ I 114 r p = zI e.2.2
abbrev rvars : List Nat := [32, 113, 114, 6, 7, 8, 9, 10]
theorem BoardAt.fr {I I' : II} {b : Nat} {x : BD} {P : Nat → Nat → Bool} (h : BoardAt I b x) (hf : FrI P I I') (hP : ∀ v ∈ rvars, ∀ i, P v i = false) : BoardAt I' b x := by
  obtain ⟨h1, h2, h3, h4, h5⟩ := h
  refine ⟨?_, ?_, ?_, ?_, ?_⟩ <;> rw [hf _ _ (hP _ (by decide) _)] <;> assumption
theorem PathAt.fr {I I' : II} {R : RR} {r : Nat} {rn : RUN} {P : Nat → Nat → Bool} (h : PathAt I R r rn) (hf : FrI P I I') (hP : ∀ v ∈ rvars, ∀ i, P v i = false) : PathAt I' R r rn := by
  obtain ⟨h1, h2⟩ := h
  refine ⟨by rw [hf _ _ (hP _ (by decide) _)]; exact h1, fun p e he => ?_⟩
  obtain ⟨⟨b, hb, hB⟩, h3, h4⟩ := h2 p e he
  exact ⟨⟨b, hb, hB.fr hf hP⟩, by rw [hf _ _ (hP _ (by decide) _)]; exact h3, by rw [hf _ _ (hP _ (by decide) _)]; exact h4⟩
theorem V1_out {l : List Nat} {p : Nat} {vs : List Nat} (h : vs.all (fun v => !l.elem v) = true) : ∀ v ∈ vs, ∀ i, V1 l p v i = false := by
  intro v hv i
  have h1 := List.all_eq_true.mp h v hv
  unfold V1
  cases he : l.elem v
  · rfl
  · rw [he] at h1; cases h1
def nx (rn : RUN) (g : Int32) (p : Int) : Int := match rn[p.toNat]? with
  | some e => if gb g p.toNat = 0 then e.2.1 else e.2.2
  | none => 255
theorem nx_rng {rn : RUN} {g : Int32} {p : Int} (h : RUNok rn) (h0 : 0 ≤ p) : p < nx rn g p ∨ nx rn g p = 255 := by
  unfold nx
  cases he : rn[p.toNat]? with
  | none => exact Or.inr rfl
  | some e =>
    obtain ⟨-, h2, h3⟩ := h.2 _ e he
    unfold goOk at h2 h3
    dsimp only
    split <;> omega
theorem nx_255 {rn : RUN} {g : Int32} {p : Int} (h : RUNok rn) : 0 ≤ nx rn g p ∧ nx rn g p ≤ 255 := by
  unfold nx
  cases he : rn[p.toNat]? with
  | none => dsimp only; omega
  | some e =>
    obtain ⟨-, h2, h3⟩ := h.2 _ e he
    have := h.1
    unfold goOk at h2 h3
    dsimp only
    split <;> omega
set_option maxRecDepth 100000 in
theorem s_boardAt {Γ : AMG} {Q : QQ} {d r : Nat} {x : Int32} {p : Int} {I : II} {Lg : LJ} {R : RR} {gc : Nat → Nat} {rn : RUN} (hrn : RUNok rn) (hP : PathAt I R r rn) (hx : x = zI p) (h0 : 0 ≤ p) (h1 : p ≤ 1000)
    (hy : ∀ (e : BD × Int × Int) (b : Nat), rn[p.toNat]? = some e → R 1 r p.toNat = some b → BoardAt I b e.1 → Q (some (vR 1 b)) I Lg R (GM gc)) (hn : rn[p.toNat]? = none → Q (some vN) I Lg R (GM gc)) : am_Sp Γ d 0 0 mX7_boardAt [vR 7 r, vI x] I Lg R (GM gc) Q := by
  have hlen := hrn.1
  have hxt : x.toInt = p := by rw [hx, zI_toInt (by omega) (by omega)]
  have hst : (I 32 r 0).toInt = rn.length := by rw [hP.1, zI_toInt (by omega) (by omega)]
  refine am_run vX7_boardAt 60 _ rfl rfl rfl rfl ?_
  refine And.intro (fun c => ?_) (fun c => ?_)
  · rw [hxt] at c; omega
  · refine And.intro (fun c2 => ?_) (fun c2 => ?_)
    · rw [hxt, hst] at c2
      exact hn (List.getElem?_eq_none (by omega))
    · rw [hxt, hst] at c2
      refine And.intro (fun c3 => ?_) (fun c3 => ?_)
      · rw [hxt, zI_toInt (by omega) (by omega)] at c3
        omega
      · refine And.intro ⟨by omega, by omega⟩ ?_
        have hlt : p.toNat < rn.length := by omega
        have he : rn[p.toNat]? = some rn[p.toNat] := List.getElem?_eq_getElem hlt
        obtain ⟨⟨b, hb, hB⟩, -, -⟩ := hP.2 _ _ he
        rw [hxt]
        refine And.intro (fun q => ?_) (fun b2 q => ?_)
        · rw [hb] at q; cases q
        · rw [hb] at q
          cases q
          exact hy _ b he hb hB
set_option maxRecDepth 100000 in
theorem s_leadsTo {Γ : AMG} {Q : QQ} {d r : Nat} {x g : Int32} {p : Int} {I : II} {Lg : LJ} {R : RR} {gc : Nat → Nat} {rn : RUN} (hrn : RUNok rn) (hP : PathAt I R r rn) (hx : x = zI p) (h0 : 0 ≤ p) (h1 : p ≤ 1000)
    (h : Q (some (vI (zI (nx rn g p)))) I Lg R (GM gc)) : am_Sp Γ d 0 0 mX7_leadsTo [vR 7 r, vI x, vI g] I Lg R (GM gc) Q := by
  have hlen := hrn.1
  have hxt : x.toInt = p := by rw [hx, zI_toInt (by omega) (by omega)]
  have hst : (I 32 r 0).toInt = rn.length := by rw [hP.1, zI_toInt (by omega) (by omega)]
  refine am_run vX7_leadsTo 60 _ rfl rfl rfl rfl ?_
  refine And.intro (fun c => ?_) (fun c => ?_)
  · rw [hxt] at c; omega
  · refine And.intro (fun c2 => ?_) (fun c2 => ?_)
    · rw [hxt, hst] at c2
      have e : rn[p.toNat]? = none := List.getElem?_eq_none (by omega)
      unfold nx at h
      rw [e] at h
      exact h
    · rw [hxt, hst] at c2
      refine And.intro (fun c3 => ?_) (fun c3 => ?_)
      · have hlt : p.toNat < rn.length := by omega
        have he : rn[p.toNat]? = some rn[p.toNat] := List.getElem?_eq_getElem hlt
        obtain ⟨-, hs, ht⟩ := hP.2 _ _ he
        have hbit : (g.toUInt32 >>> (x.toUInt32 &&& Int32.toUInt32 31)).toInt32 &&& zI 1 = zI (gb g p.toNat) := by
          rw [hx, show p = ((p.toNat : Nat) : Int) by omega]
          exact gb_u (by omega)
        have h01 := gb_01 g p.toNat
        have hxn : x.toInt.toNat = p.toNat := by rw [hxt]
        unfold nx at h
        rw [he] at h
        refine And.intro (fun c4 => ?_) (fun c4 => ?_)
        · rw [hbit, zI_toInt (by omega) (by omega)] at c4
          refine And.intro ⟨by omega, by omega⟩ ?_
          rw [hxn, ht]
          dsimp only at h
          rw [if_neg (by omega)] at h
          exact h
        · rw [hbit, zI_toInt (by omega) (by omega)] at c4
          refine And.intro ⟨by omega, by omega⟩ ?_
          rw [hxn, hs]
          dsimp only at h
          rw [if_pos (by omega)] at h
          exact h
      · rw [hxt, zI_toInt (by omega) (by omega)] at c3
        omega
/-- where a ball comes to stay: place, part, how many it jumped -/
def land (rn : RUN) (g : Int32) : Nat → Int → Int → Int × Int × Nat
  | 0, p, t => (p, t, 0)
  | f + 1, p, t => match rn[p.toNat]? with
    | none => (p, t, 0)
    | some e => if t < e.1.1 then (p, t, 0) else ((land rn g f (nx rn g p) (t - e.1.1)).1, (land rn g f (nx rn g p) (t - e.1.1)).2.1, (land rn g f (nx rn g p) (t - e.1.1)).2.2 + 1)
theorem land_rng {rn : RUN} {g : Int32} (hrn : RUNok rn) : ∀ (f : Nat) (p t : Int), 0 ≤ p → p ≤ 255 → 0 ≤ t → 0 ≤ (land rn g f p t).1 ∧ (land rn g f p t).1 ≤ 255 ∧ 0 ≤ (land rn g f p t).2.1 ∧ (land rn g f p t).2.1 ≤ t ∧ (land rn g f p t).2.2 ≤ f
  | 0, p, t, h1, h2, h3 => ⟨h1, h2, h3, Int.le_refl _, Nat.le_refl _⟩
  | f + 1, p, t, h1, h2, h3 => by
    unfold land
    cases he : rn[p.toNat]? with
    | none => dsimp only; omega
    | some e =>
      dsimp only
      have hb := (hrn.2 _ e he).1.1
      by_cases ht : t < e.1.1
      · rw [if_pos ht]
        dsimp only; omega
      · rw [if_neg ht]
        have hx := nx_255 (g := g) (p := p) hrn
        have ih := land_rng (g := g) hrn f (nx rn g p) (t - e.1.1) hx.1 hx.2 (by omega)
        dsimp only
        omega
theorem carry_loop {Γ : AMG} {Q : QQ} {d r b : Nat} {g : Int32} {I : II} {Lg : LJ} {R : RR} {gc : Nat → Nat} {rn : RUN} {p0 sp pa qa : Int} (hrn : RUNok rn) (hP : PathAt I R r rn) :
    ∀ (m k : Nat) (x3 x4 x5 : Int32) (p t : Int) (j : Nat) (I1 : II), k + m = 12 → x5 = zI k → x4 = zI p → x3 = zI j → j ≤ k → 0 ≤ p → p ≤ 255 → 0 ≤ t → t ≤ 1000000 → FrI (V1 bvars b) I I1 → BallAt I1 b (p0, t, sp, pa, qa) →
      (∀ I' : II, FrI (V1 bvars b) I I' → BallAt I' b ((land rn g m p t).1, (land rn g m p t).2.1, sp, pa, qa) → Q (some (vI (zI (j + (land rn g m p t).2.2 : Nat)))) I' Lg R (GM gc)) →
      am_J Γ mX7_carryOn Q (d + 1) 0 0 16 [some (vR 7 r), some (vR 0 b), some (vI g), some (vI x3), some (vI x4), some (vI x5), none] [] I1 Lg R (GM gc) := by
  intro m
  have fin : ∀ (x3 x4 : Int32) (x5 : Option AV) (x6 : Option AV) (p t : Int) (j : Nat) (I1 : II), x4 = zI p → x3 = zI j → FrI (V1 bvars b) I I1 → BallAt I1 b (p0, t, sp, pa, qa) → (∀ I' : II, FrI (V1 bvars b) I I' → BallAt I' b (p, t, sp, pa, qa) → Q (some (vI (zI j))) I' Lg R (GM gc)) → Q (some (vI x3)) (up3 I1 1 b 0 x4) Lg R (GM gc) := by
    intro x3 x4 x5 x6 p t j I1 h4 h3 hf hb h
    obtain ⟨l1, l2, l3, l4, l5⟩ := hb
    rw [h3]
    refine h _ (hf.up (V1_in rfl)) ⟨by rw [up3_s, h4], ?_, ?_, ?_, ?_⟩
    · rw [up3_v _ (by decide)]; exact l2
    · rw [up3_v _ (by decide)]; exact l3
    · rw [up3_v _ (by decide)]; exact l4
    · rw [up3_v _ (by decide)]; exact l5
  induction m with
  | zero =>
    intro k x3 x4 x5 p t j I1 hk h5 h4 h3 hj hp0 hp1 ht0 ht1 hf hb h
    refine am_go vX7_carryOn 60 ?_
    refine And.intro (fun c => ?_) (fun c => ?_)
    · exact fin x3 x4 none none p t j I1 h4 h3 hf hb h
    · rw [h5, zI_toInt (by omega) (by omega), zI_toInt (by omega) (by omega)] at c
      omega
  | succ m ih =>
    intro k x3 x4 x5 p t j I1 hk h5 h4 h3 hj hp0 hp1 ht0 ht1 hf hb h
    have hP1 : PathAt I1 R r rn := hP.fr hf (V1_out (by decide))
    refine am_go vX7_carryOn 60 ?_
    refine And.intro (fun c => ?_) (fun c => ?_)
    · rw [h5, zI_toInt (by omega) (by omega), zI_toInt (by omega) (by omega)] at c
      omega
    · refine s_boardAt hrn hP1 h4 hp0 (by omega) (fun e bo he hR hB => ?_) (fun he => ?_)
      · have hbk := (hrn.2 _ e he).1
        have hpt : (I1 2 b 0).toInt = t := by rw [hb.2.1, zI_toInt (by show _ ≤ t; omega) (by show t < _; omega)]
        have hpr : (I1 6 bo 0).toInt = e.1.1 := by rw [hB.1, zI_toInt (by have := hbk.1; omega) (by have := hbk.2.1; omega)]
        refine And.intro (fun c2 => ?_) (fun c2 => ?_)
        · rw [hpt, hpr] at c2
          refine s_leadsTo hrn (hP1.fr (P := V1 bvars b) (FrI.rf.up (V1_in rfl)) (V1_out (by decide))) h4 hp0 (by omega) ?_
          have hx := nx_255 (g := g) (p := p) hrn
          refine am_J.drop (L' := [some (vR 7 r), some (vR 0 b), some (vI g), some (vI (x3 + zI 1)), some (vI (zI (nx rn g p))), some (vI (x5 + zI 1)), none]) rfl (fun i v hi => ?_) (ih (k + 1) _ _ _ (nx rn g p) (t - e.1.1) (j + 1) _ (by omega) (by rw [h5, zI_add]; congr 1) rfl (by rw [h3, zI_add]; congr 1) (by omega) hx.1 hx.2 (by omega) (by have := hbk.1; omega) (hf.up (V1_in rfl)) ?_ (fun I' f' b' => ?_))
          · match i, hi with
            | 0, hi => exact hi
            | 1, hi => exact hi
            | 2, hi => exact hi
            | 3, hi => exact hi
            | 4, hi => exact hi
            | 5, hi => exact hi
            | 6, hi => cases hi
            | _ + 7, hi => cases hi
          · obtain ⟨l1, l2, l3, l4, l5⟩ := hb
            refine ⟨?_, ?_, ?_, ?_, ?_⟩
            · rw [up3_v _ (by decide)]; exact l1
            · rw [up3_s, l2, hB.1, zI_sub]
            · rw [up3_v _ (by decide)]; exact l3
            · rw [up3_v _ (by decide)]; exact l4
            · rw [up3_v _ (by decide)]; exact l5
          · unfold land at h
            rw [he] at h
            dsimp only at h
            rw [if_neg (by omega)] at h
            have := h I' f' b'
            rw [show j + 1 + (land rn g m (nx rn g p) (t - e.1.1)).2.2 = j + ((land rn g m (nx rn g p) (t - e.1.1)).2.2 + 1) by omega]
            exact this
        · rw [hpt, hpr] at c2
          unfold land at h
          rw [he] at h
          dsimp only at h
          rw [if_pos c2] at h
          exact fin x3 x4 none none p t j I1 h4 h3 hf hb h
      · unfold land at h
        rw [he] at h
        exact fin x3 x4 none none p t j I1 h4 h3 hf hb h
set_option maxRecDepth 100000 in
theorem s_carryOn {Γ : AMG} {Q : QQ} {d r b : Nat} {g : Int32} {I : II} {Lg : LJ} {R : RR} {gc : Nat → Nat} {rn : RUN} {l : BL} (hrn : RUNok rn) (hP : PathAt I R r rn) (hb : BallAt I b l) (hp0 : 0 ≤ l.1) (hp1 : l.1 ≤ 255) (ht0 : 0 ≤ l.2.1) (ht1 : l.2.1 ≤ 1000000)
    (h : ∀ I' : II, FrI (V1 bvars b) I I' → BallAt I' b ((land rn g 12 (nx rn g l.1) l.2.1).1, (land rn g 12 (nx rn g l.1) l.2.1).2.1, l.2.2.1, l.2.2.2.1, l.2.2.2.2) → Q (some (vI (zI (land rn g 12 (nx rn g l.1) l.2.1).2.2))) I' Lg R (GM gc)) :
    am_Sp Γ (d + 1) 0 0 mX7_carryOn [vR 7 r, vR 0 b, vI g] I Lg R (GM gc) Q := by
  refine am_run vX7_carryOn 60 _ rfl rfl rfl rfl ?_
  refine s_leadsTo hrn hP hb.1 hp0 (by omega) ?_
  have hx := nx_255 (g := g) (p := l.1) hrn
  refine carry_loop hrn hP 12 0 _ _ _ (nx rn g l.1) l.2.1 0 I rfl rfl rfl rfl (Nat.le_refl _) hx.1 hx.2 ht0 ht1 FrI.rf hb (fun I' f' b' => ?_)
  rw [Nat.zero_add]
  exact h I' f' b'

/-! How the class stands in a text; a use. -/
def curI (P : PP) : Nat := match P.2.2.1 with
  | none => 0
  | some _ => 1 + P.2.1.length
def totF (base : LST) : List FRM → LST
  | [] => base
  | f :: r => totF base r ++ f.2.2
def CFrm (I : II) (base : LST) : List FRM → Prop
  | [] => True
  | f :: r => I 120 0 r.length = zI (min 24 (totF base r).length : Nat) ∧ I 121 0 r.length = zI f.1 ∧ I 122 0 r.length = zI f.2.1 ∧ CFrm I base r
def CPs (I : II) (R : RR) (sz : Nat) (bs : Nat → Int) (P : PP) : Prop :=
  R 0 0 0 = some (curI P) ∧ I 35 0 0 = zI P.2.1.length ∧ I 36 0 0 = zI P.2.2.2.2.2.length ∧ PlanAt I (curI P) (capL (totF P.2.2.2.2.1 P.2.2.2.2.2)) ∧ (P.2.2.1 ≠ none → PlanAt I 0 (capL P.2.2.2.1)) ∧ CFrm I P.2.2.2.2.1 P.2.2.2.2.2 ∧
  (∀ (j : Nat) (s : List Int × LST), P.2.1[j]? = some s → PlanAt I (1 + j) (capL s.2) ∧ NmAt I sz bs j s.1) ∧ (∀ w, P.2.2.1 = some w → NmAt I sz bs P.2.1.length w)
abbrev rdw : List Nat := [35, 36, 120, 121, 122, 118, 119]
abbrev rdv : List Nat := 35 :: 36 :: 120 :: 121 :: 122 :: 118 :: 119 :: crv
def VRD : Nat → Nat → Bool := fun v i => V0 rdv v i || (pvars.elem v && Nat.ble i 8)
theorem V0_rd {I I' : II} {l : List Nat} (h : FrI (V0 l) I I') (hl : l.all (fun v => rdv.elem v) = true) : FrI VRD I I' := h.mono (fun v i hv => V0_sub (l2 := rdv) hl (by unfold VRD at hv; exact (Bool.or_eq_false_iff.mp hv).1))
theorem V1_rd {I I' : II} {p : Nat} (h : FrI (V1 pvars p) I I') (hp : p ≤ 8) : FrI VRD I I' := h.mono (fun v i hv => by
  unfold VRD at hv
  obtain ⟨-, h2⟩ := Bool.or_eq_false_iff.mp hv
  unfold V1
  rcases Bool.and_eq_false_iff.mp h2 with h3 | h3
  · rw [h3]; rfl
  · have hne : i ≠ p := by
      intro q
      rw [q, Nat.ble_eq_true_of_le hp] at h3
      cases h3
    rw [beq_eq_false_iff_ne.mpr hne, Bool.and_false])
theorem VRD_out {vs : List Nat} (h : vs.all (fun v => !rdv.elem v && !pvars.elem v) = true) : ∀ v ∈ vs, ∀ i, VRD v i = false := by
  intro v hv i
  have h1 := List.all_eq_true.mp h v hv
  rw [Bool.and_eq_true, Bool.not_eq_true', Bool.not_eq_true'] at h1
  unfold VRD V0
  rw [h1.1, h1.2]
  rfl
theorem CFrm.fr {I I' : II} {Pr : Nat → Nat → Bool} {base : LST} (hf : FrI Pr I I') (hP : ∀ v ∈ rdw, Pr v 0 = false) : ∀ fr : List FRM, CFrm I base fr → CFrm I' base fr
  | [], _ => trivial
  | f :: r, h => ⟨by rw [hf _ _ (hP _ (by decide))]; exact h.1, by rw [hf _ _ (hP _ (by decide))]; exact h.2.1, by rw [hf _ _ (hP _ (by decide))]; exact h.2.2.1, CFrm.fr hf hP r h.2.2.2⟩
theorem NmAt.fr {I I' : II} {Pr : Nat → Nat → Bool} {sz : Nat} {bs : Nat → Int} {j : Nat} {w : List Int} (h : NmAt I sz bs j w) (hf : FrI Pr I I') (hP : ∀ v ∈ rdw, Pr v 0 = false) : NmAt I' sz bs j w := by
  obtain ⟨a, b, h1, h2, h3, h4, h5⟩ := h
  exact ⟨a, b, h1, h2, by rw [hf _ _ (hP _ (by decide))]; exact h3, by rw [hf _ _ (hP _ (by decide))]; exact h4, h5⟩
theorem CPs.fr {I I' : II} {R : RR} {l : List Nat} {sz : Nat} {bs : Nat → Int} {P : PP} (h : CPs I R sz bs P) (hf : FrI (V0 l) I I') (h1 : rdw.all (fun v => !l.elem v) = true) (h2 : pvars.all (fun v => !l.elem v) = true) : CPs I' R sz bs P := by
  obtain ⟨g1, g2, g3, g4, g5, g6, g7, g8⟩ := h
  have hw : ∀ v ∈ rdw, V0 l v 0 = false := V0_out h1
  have hp : ∀ q, ∀ v ∈ pvars, V0 l v q = false := fun q v hv => V0_outI h2 v hv q
  exact ⟨g1, by rw [hf _ _ (hw _ (by decide))]; exact g2, by rw [hf _ _ (hw _ (by decide))]; exact g3, g4.fr hf (hp _), fun q => (g5 q).fr hf (hp _), CFrm.fr hf hw _ g6, fun j s hj => ⟨(g7 j s hj).1.fr hf (hp _), (g7 j s hj).2.fr hf hw⟩, fun w hw2 => (g8 w hw2).fr hf hw⟩
theorem totF_add (base : LST) (fr : List FRM) (es : LST) : totF (addL base fr es).1 (addL base fr es).2 = totF base fr ++ es := by
  cases fr with
  | nil => rfl
  | cons f r =>
    show totF base r ++ (f.2.2 ++ es) = totF base r ++ f.2.2 ++ es
    rw [List.append_assoc]
theorem V1_w {l : List Nat} {p : Nat} {vs : List Nat} (h : vs.all (fun v => !l.elem v) = true) : ∀ v ∈ vs, V1 l p v 0 = false := fun v hv => V1_out h v hv 0
theorem curI_le {l : List MC} {P : PP} (h : PPok l P) : curI P ≤ 8 := by
  unfold curI
  cases hc : P.2.2.1 with
  | none => exact Nat.zero_le _
  | some w => have := h.2.1 (by rw [hc]; exact fun z => by cases z); show 1 + P.2.1.length ≤ 8; omega
theorem CPs.add {I I' : II} {R : RR} {sz : Nat} {bs : Nat → Int} {P : PP} {p : Nat} {es : LST} (h : CPs I R sz bs P) (hf : FrI (V1 pvars (curI P)) I I') (hp : PlanAt I' (curI P) (capL (totF P.2.2.2.2.1 P.2.2.2.2.2 ++ es))) : CPs I' R sz bs (withL P p (addL P.2.2.2.2.1 P.2.2.2.2.2 es)) := by
  obtain ⟨g1, g2, g3, g4, g5, g6, g7, g8⟩ := h
  have hw : ∀ v ∈ rdw, V1 pvars (curI P) v 0 = false := V1_w (by decide)
  have hlen : (addL P.2.2.2.2.1 P.2.2.2.2.2 es).2.length = P.2.2.2.2.2.length := by
    cases P.2.2.2.2.2 <;> rfl
  refine ⟨g1, by rw [hf _ _ (hw _ (by decide))]; exact g2, ?_, ?_, fun q => (g5 q).ne hf ?_, ?_, fun j s hj => ⟨(g7 j s hj).1.ne hf ?_, (g7 j s hj).2.fr hf hw⟩, fun w hw2 => (g8 w hw2).fr hf hw⟩
  · rw [hf _ _ (hw _ (by decide))]
    show _ = zI (addL P.2.2.2.2.1 P.2.2.2.2.2 es).2.length
    rw [hlen]
    exact g3
  · show PlanAt I' (curI P) (capL (totF (addL P.2.2.2.2.1 P.2.2.2.2.2 es).1 (addL P.2.2.2.2.1 P.2.2.2.2.2 es).2))
    rw [totF_add]
    exact hp
  · have q : P.2.2.1 ≠ none := q
    unfold curI
    cases hc : P.2.2.1 with
    | none => exact absurd hc q
    | some w => show 0 ≠ 1 + P.2.1.length; omega
  · have hcf := CFrm.fr hf hw _ g6
    show CFrm I' (addL P.2.2.2.2.1 P.2.2.2.2.2 es).1 (addL P.2.2.2.2.1 P.2.2.2.2.2 es).2
    cases hfr : P.2.2.2.2.2 with
    | nil => trivial
    | cons f r => rw [hfr] at hcf; exact hcf
  · have hjl := (List.getElem?_eq_some_iff.mp hj).1
    have hjl : j < P.2.1.length := hjl
    unfold curI
    cases hc : P.2.2.1 with
    | none => show 1 + j ≠ 0; omega
    | some w => show 1 + j ≠ 1 + P.2.1.length; omega
theorem dlw (q : Nat) : True := trivial
/-- the text and the machines of the class -/
def CTx (I : II) (sz : Nat) (bs : Nat → Int) (l : List MC) : Prop := TapeAt I sz bs ∧ CMAt I l
theorem CTx.fr {I I' : II} {Pr : Nat → Nat → Bool} {sz : Nat} {bs : Nat → Int} {l : List MC} (h : CTx I sz bs l) (hf : FrI Pr I I') (hP : ∀ v ∈ 39 :: 123 :: cmv, Pr v 0 = false) : CTx I' sz bs l := ⟨h.1.fr hf (hP _ (by decide)) (hP _ (by decide)), h.2.fr hf (fun v hv => hP v (List.mem_cons_of_mem _ (List.mem_cons_of_mem _ hv)))⟩
theorem CTk.at9 {I : II} {t : TK} (h : CTk I t) (hk : t.1 = 1 ∨ t.1 = 2 ∨ t.1 = 3) : I 41 0 0 = zI t.en := h.2.2.2.1 (by omega)
theorem eNum_f {t : TK} {a b : Int} {f : FLT} (h : eNum t a b = some f) : 1 ≤ f.1 ∧ f.1 ≤ 4 := by
  have := (eNum_1 h).2
  omega
theorem CFl.ne {I : II} {f : FLT} (h : CFl I f) (hf : 1 ≤ f.1 ∧ f.1 ≤ 4) : (I 37 0 0).toInt ≠ 0 := by
  rw [h.1, zI_toInt (by omega) (by omega)]
  omega
set_option maxRecDepth 100000 in
theorem s_readUse {Γ : AMG} {Q : QQ} {d p : Nat} {I : II} {Lg : LJ} {R : RR} {gc : Nat → Nat} {sz : Nat} {bs : Nat → Int} {l : List MC} {P : PP} (hW : SWok Γ) (hK : KWok Γ) (hb : BSsok sz bs) (hl : MCsok l) (hx : CTx I sz bs l) (ha : I 41 0 0 = zI p) (hp : p ≤ sz) (hf : I 37 0 0 = zI 0) (hP : CPs I R sz bs P) (hok : PPok l P)
    (hn : ∀ f : FLT, useA sz bs l p = .inr f → ∀ (I' : II), FrI VRD I I' → CFl I' f → (1 ≤ f.1 ∧ f.1 ≤ 4) → Q none I' Lg R (GM gc))
    (hy : ∀ (p' : Nat) (e : EV), useA sz bs l p = .inl (p', e) → ∀ (I' : II), FrI VRD I I' → I' 37 0 0 = zI 0 → I' 41 0 0 = zI p' → CPs I' R sz bs (withL P p' (addL P.2.2.2.2.1 P.2.2.2.2.2 [e])) → Q none I' Lg R (GM gc)) :
    am_Sp Γ (d + 7) 0 0 mX9_readUse [vR 9 0, vR 10 0, vR 5 0] I Lg R (GM gc) Q := by
  have hsz := hb.1
  have hll := hl.1
  have hc8 := curI_le hok
  rw [useA_2] at hn hy
  -- a fault is kept: nothing more is read
  have kF98 : ∀ (f : FLT) (I2 : II) (L3 L4 L5 : Option AV), (∀ (I' : II), FrI VRD I I' → CFl I' f → (1 ≤ f.1 ∧ f.1 ≤ 4) → Q none I' Lg R (GM gc)) → FrI VRD I I2 → CFl I2 f → (1 ≤ f.1 ∧ f.1 ≤ 4) → am_J Γ mX9_readUse Q (d + 7) 0 0 98 [some (vR 9 0), some (vR 10 0), some (vR 5 0), L3, L4, L5] [] I2 Lg R (GM gc) := by
    intro f I2 L3 L4 L5 hq f2 m2 hf4
    refine am_goN vX9_readUse 10 ?_
    exact And.intro (fun _ => hq I2 f2 m2 hf4) (fun c => absurd c (m2.ne hf4))
  have kF34 : ∀ (f : FLT) (I2 : II) (L3 L4 L5 : Option AV), (∀ (I' : II), FrI VRD I I' → CFl I' f → (1 ≤ f.1 ∧ f.1 ≤ 4) → Q none I' Lg R (GM gc)) → FrI VRD I I2 → CFl I2 f → (1 ≤ f.1 ∧ f.1 ≤ 4) → am_J Γ mX9_readUse Q (d + 7) 0 0 34 [some (vR 9 0), some (vR 10 0), some (vR 5 0), L3, L4, L5] [] I2 Lg R (GM gc) := by
    intro f I2 L3 L4 L5 hq f2 m2 hf4
    refine am_goN vX9_readUse 3 ?_
    exact And.intro (fun _ => kF98 f I2 L3 L4 L5 hq f2 m2 hf4) (fun c => absurd c (m2.ne hf4))
  have kF17 : ∀ (f : FLT) (I2 : II) (x3 : Int32), (∀ (I' : II), FrI VRD I I' → CFl I' f → (1 ≤ f.1 ∧ f.1 ≤ 4) → Q none I' Lg R (GM gc)) → FrI VRD I I2 → CFl I2 f → (1 ≤ f.1 ∧ f.1 ≤ 4) → am_J Γ mX9_readUse Q (d + 7) 0 0 17 [some (vR 9 0), some (vR 10 0), some (vR 5 0), some (vI x3), none, none] [] I2 Lg R (GM gc) := by
    intro f I2 x3 hq f2 m2 hf4
    refine am_goN vX9_readUse 11 ?_
    refine s_readNumberF (m2.ne hf4) ?_
    refine fun x4 ex4 x5 ex5 => ?_
    exact kF34 f I2 _ _ _ hq f2 m2 hf4
  refine am_runN vX9_readUse 8 _ rfl rfl rfl rfl ?_
  refine s_readNumber (a := 0) (b := 2000) hb hx.1 ha hp hf rfl rfl (by omega) (by omega) (fun he I1 f1 c1 => ?_) (fun f he x I1 f1 m1 => ?_)
  · rw [he] at hn hy
    dsimp only at hn hy
    obtain ⟨z1, z2, z3⟩ := eNum_k he
    have g1 := tok_gt hb hp (Or.inr (Or.inl z1))
    have f1' : FrI VRD I I1 := V0_rd f1 (by decide)
    have hf1 : I1 37 0 0 = zI 0 := by rw [f1 _ _ rfl]; exact hf
    have tx1 : CTx I1 sz bs l := hx.fr f1 (V0_out (by decide))
    have P1 : CPs I1 R sz bs P := hP.fr f1 (by decide) (by decide)
    generalize tokA sz bs p = t1 at *
    refine fun x3 ex3 => ?_
    refine ar_ldcS (q := 9) (tx := "use") (fun U hU => (hK U hU).2.2.2.2.2.1) dl_X9_readUse_12 ?_
    refine am_goN vX9_readUse 1 ?_
    unfold useT2 at hn hy
    refine s_readWord (q := 9) hW (by decide) hb tx1.1 (c1.at9 (Or.inr (Or.inl z1))) g1.2 hf1 (fun he2 I2 f2 c2 => ?_) (fun f he2 I2 f2 m2 => ?_)
    · rw [show eWord bs (tokA sz bs t1.en) kUse = none from he2] at hn hy
      dsimp only at hn hy
      have w2 := eWord_k he2
      have g2 := tok_gt hb g1.2 (Or.inl w2.1)
      have f2' : FrI VRD I I2 := f1'.tr (V0_rd f2 (by decide))
      have hf2 : I2 37 0 0 = zI 0 := by rw [f2 _ _ rfl]; exact hf1
      have tx2 : CTx I2 sz bs l := tx1.fr f2 (V0_out (by decide))
      have P2 : CPs I2 R sz bs P := P1.fr f2 (by decide) (by decide)
      generalize tokA sz bs t1.en = t2 at *
      refine am_goN vX9_readUse 11 ?_
      unfold useT3 at hn hy
      refine s_readNumber (a := 0) (b := l.length - 1) hb tx2.1 (c2.at9 (Or.inl w2.1)) g2.2 hf2 rfl (by rw [tx2.2.1, zI_sub]) (by omega) (by omega) (fun he3 I3 f3 c3 => ?_) (fun f he3 x I3 f3 m3 => ?_)
      · rw [he3] at hn hy
        dsimp only at hn hy
        obtain ⟨y1, y2, y3⟩ := eNum_k he3
        have g3 := tok_gt hb g2.2 (Or.inr (Or.inl y1))
        have f3' : FrI VRD I I3 := f2'.tr (V0_rd f3 (by decide))
        have hf3 : I3 37 0 0 = zI 0 := by rw [f3 _ _ rfl]; exact hf2
        have tx3 : CTx I3 sz bs l := tx2.fr f3 (V0_out (by decide))
        have P3 : CPs I3 R sz bs P := P2.fr f3 (by decide) (by decide)
        generalize tokA sz bs t2.en = t3 at *
        refine fun x4 ex4 x5 ex5 => ?_
        have hx4 : x4 = zI ((t3.val.toNat : Nat) : Int) := by rw [ex4]; congr 1; omega
        have hg := mof_get y2 (by omega : t3.val < l.length)
        have hmk := hl.2 _ _ hg
        unfold useT4 at hn hy
        -- the end
        have k98 : ∀ (I5 : II) (x5 : Int32) (n : Int) (p' : Nat), x5 = zI n → FrI VRD I I5 → I5 37 0 0 = zI 0 → I5 41 0 0 = zI p' → CPs I5 R sz bs P → (∀ (I' : II), FrI VRD I I' → I' 37 0 0 = zI 0 → I' 41 0 0 = zI p' → CPs I' R sz bs (withL P p' (addL P.2.2.2.2.1 P.2.2.2.2.2 [(t1.val, t3.val, n)])) → Q none I' Lg R (GM gc)) →
            am_J Γ mX9_readUse Q (d + 7) 0 0 98 [some (vR 9 0), some (vR 10 0), some (vR 5 0), some (vI x3), some (vI x4), some (vI x5)] [] I5 Lg R (GM gc) := by
          intro I5 x5 n p' hx5 f5 hf5 a5 P5 hq
          refine am_goN vX9_readUse 20 ?_
          refine And.intro (fun c => ?_) (fun _ => ?_)
          · rw [hf5] at c
            exact absurd (zI_toInt (a := 0) (by omega) (by omega)) c
          refine And.intro (fun c => ?_) (fun b hbb => ?_)
          · rw [P5.1] at c; cases c
          rw [P5.1] at hbb
          have hbb := Option.some.inj hbb
          subst hbb
          refine s_padd (t := t1.val) (m := t3.val) (n := n) P5.2.2.2.1 ex3 ex4 hx5 (fun I6 f6 p6 => ?_)
          rw [cap_padd] at p6
          exact hq I6 (f5.tr (V1_rd f6 hc8)) (by rw [f6 _ _ (V1_out (vs := [37]) (by decide) _ (by decide) _)]; exact hf5) (by rw [f6 _ _ (V1_out (vs := [41]) (by decide) _ (by decide) _)]; exact a5) (P5.add f6 p6)
        refine am_goN vX9_readUse 6 ?_
        refine And.intro (fun c => ?_) (fun _ => ?_)
        · rw [hf3] at c
          exact absurd (zI_toInt (a := 0) (by omega) (by omega)) c
        refine s_nextToken hb tx3.1 (c3.at9 (Or.inr (Or.inl y1))) (by omega) (fun I4 f4 c4 => ?_)
        have hT4 : TOK sz bs (tokA sz bs t3.en) := ⟨t3.en, g3.2, rfl⟩
        have f4' : FrI VRD I I4 := f3'.tr (V0_rd f4 (by decide))
        have hf4 : I4 37 0 0 = zI 0 := by rw [f4 _ _ rfl]; exact hf3
        have tx4 : CTx I4 sz bs l := tx3.fr f4 (V0_out (by decide))
        have P4 : CPs I4 R sz bs P := P3.fr f4 (by decide) (by decide)
        have hg4 : ∀ h : (tokA sz bs t3.en).1 = 1 ∨ (tokA sz bs t3.en).1 = 2 ∨ (tokA sz bs t3.en).1 = 3, t3.en < (tokA sz bs t3.en).en ∧ (tokA sz bs t3.en).en ≤ sz := fun h => tok_gt hb g3.2 h
        have hok4 := hT4.ok hb
        generalize tokA sz bs t3.en = t4 at *
        refine ar_ldcS (q := 10) (tx := "with") (fun U hU => (hK U hU).2.2.2.2.2.2.1) dl_X9_readUse_46 ?_
        refine am_goN vX9_readUse 2 ?_
        refine hW _ (d + 1) 10 I4 Lg R gc sz bs t4 (by decide) hb tx4.1 hT4 c4 (fun hw => ?_) (fun hw => ?_)
        · have hw : isW bs t4 kWith := hw
          rw [if_pos hw] at hn hy
          have g4 := hg4 (Or.inl hw.1)
          refine And.intro (fun c => ?_) (fun _ => ?_)
          · rw [zI_toInt (by omega) (by omega)] at c
            omega
          refine am_goN vX9_readUse 10 ?_
          refine s_cm_least hl.1 tx4.2 hx4 hg hmk ?_
          refine s_cm_most hl.1 tx4.2 hx4 hg hmk ?_
          refine s_readNumber (a := leastN (mof l t3.val)) (b := mostN (mof l t3.val)) hb tx4.1 (c4.at9 (Or.inl hw.1)) g4.2 hf4 rfl rfl (by unfold leastN; split <;> omega) (by unfold mostN; split <;> (try split) <;> (try split) <;> omega) (fun he5 I5 f5 c5 => ?_) (fun f he5 x I5 f5 m5 => ?_)
          · rw [he5] at hn hy
            dsimp only at hn hy
            obtain ⟨u1, u2, u3⟩ := eNum_k he5
            have g5 := tok_gt hb g4.2 (Or.inr (Or.inl u1))
            have f5' : FrI VRD I I5 := f4'.tr (V0_rd f5 (by decide))
            have hf5 : I5 37 0 0 = zI 0 := by rw [f5 _ _ rfl]; exact hf4
            have tx5 : CTx I5 sz bs l := tx4.fr f5 (V0_out (by decide))
            have P5 : CPs I5 R sz bs P := P4.fr f5 (by decide) (by decide)
            generalize tokA sz bs t4.en = t5 at *
            refine fun x5' ex5' => ?_
            refine am_goN vX9_readUse 4 ?_
            refine s_readSemi hb tx5.1 (c5.at9 (Or.inr (Or.inl u1))) g5.2 hf5 (fun he6 I6 f6 c6 => ?_) (fun f he6 I6 f6 m6 => ?_)
            · rw [he6] at hy
              refine k98 I6 x5' t5.val _ ex5' (f5'.tr (V0_rd f6 (by decide))) (by rw [f6 _ _ rfl]; exact hf5) (c6.at9 (Or.inr (Or.inr (eSemi_k he6)))) (P5.fr f6 (by decide) (by decide)) (hy _ _ rfl)
            · rw [he6] at hn
              obtain ⟨e6, -⟩ := eSemi_1 he6
              exact kF98 f I6 _ _ _ (hn f rfl) (f5'.tr (V0_rd f6 (by decide))) m6 (by rw [e6]; exact ⟨by show (1 : Int) ≤ 1; omega, by show (1 : Int) ≤ 4; omega⟩)
          · rw [he5] at hn
            refine fun x5' ex5' => ?_
            refine am_goN vX9_readUse 4 ?_
            refine s_readSemiF (m5.ne (eNum_f he5)) ?_
            exact kF98 f I5 _ _ _ (hn f rfl) (f4'.tr (V0_rd f5 (by decide))) m5 (eNum_f he5)
        · have hw : ¬ isW bs t4 kWith := hw
          rw [if_neg hw] at hn hy
          refine And.intro (fun _ => ?_) (fun c => ?_)
          · have hkt : (I4 42 0 0).toInt = t4.1 := by rw [c4.1, zI_toInt (by omega) (by omega)]
            refine am_goN vX9_readUse 4 ?_
            refine And.intro (fun c => ?_) (fun c => ?_)
            · rw [hkt, zI_toInt (by omega) (by omega)] at c
              have hs : eSemi t4 = none := by unfold eSemi; rw [if_pos (by omega)]
              rw [hs] at hy
              exact k98 I4 x5 1 t4.en ex5 f4' hf4 (c4.at9 (by omega)) P4 (hy _ _ rfl)
            · rw [hkt, zI_toInt (by omega) (by omega)] at c
              have hs : eSemi t4 = some (1, t4.2.1) := by unfold eSemi; rw [if_neg (by omega)]
              rw [hs] at hn
              refine am_goN vX9_readUse 5 ?_
              refine s_failT (t := t4) (k := 1) hf4 rfl c4.2.1 (fun I5 f5 m5 => ?_)
              exact kF98 (1, t4.2.1) I5 _ _ _ (hn _ rfl) (f4'.tr (V0_rd f5 (by decide))) m5 ⟨by show (1 : Int) ≤ 1; omega, by show (1 : Int) ≤ 4; omega⟩
          · rw [zI_toInt (by omega) (by omega)] at c
            omega
      · rw [he3] at hn
        refine fun x4 ex4 x5 ex5 => ?_
        exact kF34 f I3 _ _ _ (hn f rfl) (f2'.tr (V0_rd f3 (by decide))) m3 (eNum_f he3)
    · rw [show eWord bs (tokA sz bs t1.en) kUse = some f from he2] at hn
      obtain ⟨e2, -⟩ := eWord_1 he2
      exact kF17 f I2 x3 (hn f rfl) (f1'.tr (V0_rd f2 (by decide))) m2 (by rw [e2]; exact ⟨by show (1 : Int) ≤ 1; omega, by show (1 : Int) ≤ 4; omega⟩)
  · rw [he] at hn
    refine fun x3 ex3 => ?_
    refine ar_ldcS (q := 9) (tx := "use") (fun U hU => (hK U hU).2.2.2.2.2.1) dl_X9_readUse_12 ?_
    refine am_goN vX9_readUse 1 ?_
    refine s_readWordF (m1.ne (eNum_f he)) ?_
    exact kF17 f I1 x3 (hn f rfl) (V0_rd f1 (by decide)) m1 (eNum_f he)

/-! The class closes what is open. -/
theorem CPs.set {I I' : II} {R : RR} {Pr : Nat → Nat → Bool} {sz p : Nat} {bs : Nat → Int} {P : PP} {q : LST × List FRM} (h : CPs I R sz bs P) (hf : FrI Pr I I') (hs : ∀ v ∈ [35, 118, 119], Pr v 0 = false) (hpv : ∀ i, i ≠ curI P → ∀ v ∈ pvars, Pr v i = false) (ho : I' 36 0 0 = zI q.2.length) (hpl : PlanAt I' (curI P) (capL (totF q.1 q.2))) (hfr : CFrm I' q.1 q.2) : CPs I' R sz bs (withL P p q) := by
  obtain ⟨g1, g2, g3, g4, g5, g6, g7, g8⟩ := h
  have hN : ∀ j w, NmAt I sz bs j w → NmAt I' sz bs j w := by
    intro j w ⟨a, b, h1, h2, h3, h4, h5⟩
    exact ⟨a, b, h1, h2, by rw [hf _ _ (hs _ (by decide))]; exact h3, by rw [hf _ _ (hs _ (by decide))]; exact h4, h5⟩
  refine ⟨g1, by rw [hf _ _ (hs _ (by decide))]; exact g2, ho, hpl, fun z => (g5 z).fr hf (hpv _ ?_), hfr, fun j s hj => ⟨(g7 j s hj).1.fr hf (hpv _ ?_), hN _ _ (g7 j s hj).2⟩, fun w hw2 => hN _ _ (g8 w hw2)⟩
  · have z : P.2.2.1 ≠ none := z
    unfold curI
    cases hc : P.2.2.1 with
    | none => exact absurd hc z
    | some w => show 0 ≠ 1 + P.2.1.length; omega
  · have hjl := (List.getElem?_eq_some_iff.mp hj).1
    have hjl : j < P.2.1.length := hjl
    unfold curI
    cases hc : P.2.2.1 with
    | none => show 1 + j ≠ 0; omega
    | some w => show 1 + j ≠ 1 + P.2.1.length; omega
theorem CFrm.fr2 {I I' : II} {Pr : Nat → Nat → Bool} {base : LST} (hf : FrI Pr I I') (hP : ∀ v ∈ [120, 121, 122], Pr v 0 = false) : ∀ fr : List FRM, CFrm I base fr → CFrm I' base fr
  | [], _ => trivial
  | f :: r, h => ⟨by rw [hf _ _ (hP _ (by decide))]; exact h.1, by rw [hf _ _ (hP _ (by decide))]; exact h.2.1, by rw [hf _ _ (hP _ (by decide))]; exact h.2.2.1, CFrm.fr2 hf hP r h.2.2.2⟩
theorem CFrm.addL {I : II} {base es : LST} {r : List FRM} (h : CFrm I base r) : CFrm I (addL base r es).1 (addL base r es).2 := by
  cases r with
  | nil => trivial
  | cons f r => exact h
theorem V01_out {l : List Nat} {p i : Nat} (h : pvars.all (fun v => !l.elem v) = true) (hne : i ≠ p) : ∀ v ∈ pvars, (V0 l v i || V1 pvars p v i) = false := fun v hv => by
  rw [V0_outI h v hv i, Bool.false_or]
  simp [V1, hne]
theorem V01_w {l vs : List Nat} {p : Nat} (h : vs.all (fun v => !l.elem v && !pvars.elem v) = true) : ∀ v ∈ vs, (V0 l v 0 || V1 pvars p v 0) = false := fun v hv => by
  have h1 := List.all_eq_true.mp h v hv
  rw [Bool.and_eq_true, Bool.not_eq_true', Bool.not_eq_true'] at h1
  unfold V0 V1
  rw [h1.1, h1.2]
  rfl
/-- dynamic references stay, but for the current plan -/
def FrC (R R' : RR) : Prop := ∀ v, v ≠ 0 → ∀ i j, R' v i j = R v i j
theorem FrC.rf {R : RR} : FrC R R := fun _ _ _ _ => rfl
theorem FrC.tr {R R1 R2 : RR} (h : FrC R R1) (h2 : FrC R1 R2) : FrC R R2 := fun v hv i j => (h2 v hv i j).trans (h v hv i j)
theorem FrC.cu {R : RR} {i j : Nat} {o : Option Nat} : FrC R (up3 R 0 i j o) := fun v hv a b => by rw [up3_v _ hv]
/-- what end does -/
def endA (t : TK) (P : PP) : PP ⊕ FLT := match P.2.2.2.2.2, P.2.2.1 with
    | f :: r, _ => .inl (t.en, P.2.1, P.2.2.1, P.2.2.2.1, addL P.2.2.2.2.1 r (repL f.2.2 f.2.1 f.1.toNat))
    | [], some w => .inl (t.en, P.2.1 ++ [(w, P.2.2.2.2.1)], none, [], P.2.2.2.1, [])
    | [], none => .inr (1, t.st)
set_option maxRecDepth 100000 in
theorem s_close {Γ : AMG} {Q : QQ} {d : Nat} {I : II} {Lg : LJ} {R : RR} {gc : Nat → Nat} {sz : Nat} {bs : Nat → Int} {l : List MC} {t : TK} {P : PP} (hb : BSsok sz bs) (ht : TOK sz bs t) (hm : CTk I t) (ht1 : t.1 = 1) (hf : I 37 0 0 = zI 0) (hP : CPs I R sz bs P) (hok : PPok l P)
    (hn : ∀ f : FLT, endA t P = .inr f → ∀ (I' : II), FrI VRD I I' → CFl I' f → (1 ≤ f.1 ∧ f.1 ≤ 4) → Q none I' Lg R (GM gc))
    (hy : ∀ P' : PP, endA t P = .inl P' → ∀ (I' : II) (R' : RR), FrC R R' → FrI VRD I I' → I' 37 0 0 = zI 0 → I' 41 0 0 = zI P'.1 → P'.1 ≤ sz → CPs I' R' sz bs P' → Q none I' Lg R' (GM gc)) :
    am_Sp Γ (d + 3) 0 0 mX9_close [vR 9 0, vR 10 0] I Lg R (GM gc) Q := by
  have hc8 := curI_le hok
  have h4 := hok.2.2.1
  have hot : (I 36 0 0).toInt = P.2.2.2.2.2.length := by rw [hP.2.2.1, zI_toInt (by omega) (by omega)]
  unfold endA at hn hy
  have k62 : P.2.2.2.2.2 = [] → am_J Γ mX9_close Q (d + 3) 0 0 62 [some (vR 9 0), some (vR 10 0)] [] I Lg R (GM gc) := by
    intro hfr
    rw [hfr] at hn hy
    refine am_goN vX9_close 3 ?_
    refine And.intro (fun c => ?_) (fun b hbb => ?_)
    · rw [hP.1] at c; cases c
    rw [hP.1] at hbb
    have hbb := Option.some.inj hbb
    refine am_goN vX9_close 4 ?_
    refine And.intro (fun c => ?_) (fun c => ?_)
    · have hc : P.2.2.1 = none := by
        have h0 : b = 0 := c.2
        rw [← hbb] at h0
        unfold curI at h0
        cases hc : P.2.2.1 with
        | none => rfl
        | some w => rw [hc] at h0; have h0 : 1 + P.2.1.length = 0 := h0; omega
      rw [hc] at hn
      refine am_goN vX9_close 10 ?_
      refine s_failT (t := t) (k := 1) hf rfl hm.2.1 (fun I5 f5 m5 => ?_)
      exact hn (1, t.2.1) rfl I5 (V0_rd f5 (by decide)) m5 ⟨by show (1 : Int) ≤ 1; omega, by show (1 : Int) ≤ 4; omega⟩
    · cases hc : P.2.2.1 with
      | none =>
        refine absurd ⟨rfl, ?_⟩ c
        rw [← hbb]
        unfold curI
        rw [hc]
      | some w =>
        rw [hc] at hy
        obtain ⟨g1, g2, g3, g4, g5, g6, g7, g8⟩ := hP
        have hci : curI P = 1 + P.2.1.length := by unfold curI; rw [hc]
        rw [hci, hfr] at g4
        have h28 := hok.2.1 (by rw [hc]; exact fun z => by cases z)
        refine am_goN vX9_close 20 ?_
        refine And.intro rfl ?_
        refine fun y1 ey1 I1 e1 => ?_
        have f1 : FrI (V0 [35]) I I1 := by rw [e1]; exact FrI.rf.up rfl
        have hpv : ∀ i, ∀ v ∈ pvars, V0 [35] v i = false := fun q v hv => V0_outI (by decide) v hv q
        have hN : ∀ j w, NmAt I sz bs j w → NmAt I1 sz bs j w := by
          intro j w ⟨a, b, h1, h2, h3, h4, h5⟩
          exact ⟨a, b, h1, h2, by rw [f1 _ _ rfl]; exact h3, by rw [f1 _ _ rfl]; exact h4, h5⟩
        refine hy _ rfl I1 _ FrC.cu (V0_rd f1 (by decide)) (by rw [f1 _ _ rfl]; exact hf) (by rw [f1 _ _ rfl]; exact hm.at9 (Or.inl ht1)) (ht.ok hb).2.1 ⟨up3_s .., ?_, ?_, ?_, fun z => absurd rfl z, trivial, fun j s hj => ?_, fun w2 hw2 => by (cases hw2)⟩
        · rw [e1, up3_s, ey1, g2, zI_add]
          show _ = zI ((P.2.1 ++ [(w, P.2.2.2.2.1)]).length : Nat)
          rw [List.length_append]
          rfl
        · rw [f1 _ _ rfl, g3, hfr]
        · exact (g5 (by rw [hc]; exact fun z => by cases z)).fr f1 (hpv 0)
        · rcases app_get hj with ⟨hj1, hj2⟩ | ⟨hj1, hj2⟩
          · subst hj1
            subst hj2
            exact ⟨g4.fr f1 (hpv _), hN _ _ (g8 w hc)⟩
          · exact ⟨(g7 j s hj2).1.fr f1 (hpv _), hN _ _ (g7 j s hj2).2⟩
  refine am_runN vX9_close 3 _ rfl rfl rfl rfl ?_
  refine And.intro (fun c => ?_) (fun c => ?_)
  · rw [hot] at c
    exact k62 (List.length_eq_zero_iff.mp (by omega))
  · rw [hot] at c
    cases hfr : P.2.2.2.2.2 with
    | nil => rw [hfr] at c; exact absurd c (Int.lt_irrefl 0)
    | cons f r =>
    rw [hfr] at hn hy h4 hot
    rw [List.length_cons] at h4 hot
    have hv := hok.2.2.2.2.2.1
    rw [hfr] at hv
    obtain ⟨⟨v1, v2, v3, v4⟩, v5, -⟩ := hv
    refine am_goN vX9_close 4 ?_
    refine And.intro (fun c2 => ?_) (fun c2 => ?_)
    · rw [hot, zI_toInt (by omega) (by omega)] at c2
      omega
    have hP0 := hP
    obtain ⟨g1, g2, g3, g4, g5, g6, g7, g8⟩ := hP
    rw [hfr] at g3 g4 g6
    refine am_goN vX9_close 6 ?_
    refine fun y1 ey1 I1 e1 => ?_
    have f1 : FrI (V0 [36]) I I1 := by rw [e1]; exact FrI.rf.up rfl
    have hpv : ∀ i, ∀ v ∈ pvars, V0 [36] v i = false := fun q v hv => V0_outI (by decide) v hv q
    have ho1 : I1 36 0 0 = zI r.length := by rw [e1, up3_s, ey1, g3, zI_sub, List.length_cons]; congr 1; omega
    have ho1t : (I1 36 0 0).toInt = r.length := by rw [ho1, zI_toInt (by omega) (by omega)]
    have ho1n : (I1 36 0 0).toInt.toNat = r.length := by omega
    refine am_goN vX9_close 3 ?_
    refine And.intro (fun c => ?_) (fun b hbb => ?_)
    · rw [g1] at c; cases c
    rw [g1] at hbb
    have hbb := Option.some.inj hbb
    subst hbb
    refine am_goN vX9_close 30 ?_
    refine And.intro ⟨by omega, by omega⟩ ?_
    refine And.intro ⟨by omega, by omega⟩ ?_
    refine And.intro ⟨by omega, by omega⟩ ?_
    rw [ho1n]
    have hplan : PlanAt I1 (curI P) (capL (totF P.2.2.2.2.1 r ++ f.2.2)) := g4.fr f1 (hpv _)
    refine s_prep (fr := min 24 (totF P.2.2.2.2.1 r).length) (times := f.1.toNat) (ev := f.2.1) hplan (by rw [f1 _ _ rfl]; exact g6.1) (by rw [capL_len, List.length_append]; omega) (by rw [f1 _ _ rfl, g6.2.1]; congr 1; omega) (by omega) (by rw [f1 _ _ rfl]; exact g6.2.2.1) (fun I2 f2 p2 => ?_)
    rw [cap_prep _ _ _ _ (by omega)] at p2
    have hcf : CFrm I1 P.2.2.2.2.1 r := CFrm.fr2 f1 (V0_out (by decide)) r g6.2.2.2
    have hcf2 : CFrm I2 P.2.2.2.2.1 r := CFrm.fr f2 (V1_w (by decide)) r hcf
    refine hy _ rfl I2 _ FrC.rf ((V0_rd f1 (by decide)).tr (V1_rd f2 hc8)) (by rw [f2 _ _ (V1_out (vs := [37]) (by decide) _ (by decide) _), f1 _ _ rfl]; exact hf) (by rw [f2 _ _ (V1_out (vs := [41]) (by decide) _ (by decide) _), f1 _ _ rfl]; exact hm.at9 (Or.inl ht1)) (ht.ok hb).2.1 ?_
    have hlen : (addL P.2.2.2.2.1 r (repL f.2.2 f.2.1 f.1.toNat)).2.length = r.length := by
      cases r <;> rfl
    refine CPs.set (Pr := fun v i => V0 [36] v i || V1 pvars (curI P) v i) hP0 (fun v i hv => ?_) (V01_w (by decide)) ?_ ?_ ?_ ?_
    · obtain ⟨q1, q2⟩ := Bool.or_eq_false_iff.mp hv
      rw [f2 v i q2, f1 v i q1]
    · exact fun i hi => V01_out (by decide) hi
    · rw [hlen, f2 _ _ (V1_out (vs := [36]) (by decide) _ (by decide) _)]
      exact ho1
    · rw [totF_add]
      exact p2
    · exact hcf2.addL

/-! The score of the class. -/
theorem EVv.ok {l : List MC} {e : EV} (hl : MCsok l) (h : EVv l 4000 e) : EVok l e ∧ EVok2 l e := by
  obtain ⟨h1, h2, h3, h4, h5, h6⟩ := h
  unfold leastN at h5
  unfold mostN at h6
  refine ⟨⟨h1, h2, h3, h4, ?_, ?_⟩, fun q => ?_, fun q q2 => ?_⟩
  · revert h5; split <;> intro h5 <;> omega
  · revert h6; repeat' split
    all_goals (intro h6; omega)
  · revert h6; repeat' split
    all_goals (intro h6; omega)
  · revert h5; split <;> intro h5 <;> omega
theorem srt_mem {L : LST} {e : EV} (h : e ∈ srt L) : e ∈ L := srtN_mem _ e h
theorem srt_len {L : LST} : (srt L).length = L.length := srtN_len _
theorem srt_ok {l : List MC} {L : LST} (hl : MCsok l) (h : LSv l 4000 L) (h24 : L.length ≤ 24) : EVsok l (srt L) ∧ EVsok2 l (srt L) ∧ EVsrt (srt L) := by
  refine ⟨⟨by rw [srt_len]; exact h24, fun k e he => ?_⟩, fun k e he => ?_, fun j k a b hjk ha hb => ?_⟩
  · exact (EVv.ok hl (h e (srt_mem (List.mem_of_getElem? he)))).1
  · exact (EVv.ok hl (h e (srt_mem (List.mem_of_getElem? he)))).2
  · have hk := (List.getElem?_eq_some_iff.mp hb).1
    rw [srt_len] at hk
    obtain ⟨-, s2, -⟩ := srt_spec (es := L) (L.length - 1) (by omega)
    have := s2 j k hjk (by omega)
    have ha : (srtN L (L.length - 1))[j]? = some a := ha
    have hb : (srtN L (L.length - 1))[k]? = some b := hb
    rw [tkA_e ha, tkA_e hb] at this
    exact this
/-- what a SCORE with a FAULT touches -/
def VSF : Nat → Nat → Bool := fun v i => V0 (39 :: rdv) v i || (pvars.elem v && Nat.ble i 8)
/-- what a SCORE touches -/
abbrev ssv : List Nat := 39 :: 91 :: (rdv ++ pvars)
theorem VRD_VSF {I I' : II} (h : FrI VRD I I') : FrI VSF I I' := h.mono (fun v i q => by
  unfold VSF at q
  unfold VRD
  obtain ⟨q1, q2⟩ := Bool.or_eq_false_iff.mp q
  rw [q2, V0_sub (l := rdv) (by decide) q1]
  rfl)
theorem VSF_ssv {I I' : II} (h : FrI VSF I I') : FrI (V0 ssv) I I' := h.mono (fun v i q => by
  unfold VSF
  have h1 := V0_sub (l := 39 :: rdv) (v := v) (i := i) (by decide) q
  have h2 := V0_sub (l := pvars) (v := v) (i := i) (by decide) q
  unfold V0 at h2
  rw [h1, h2]
  rfl)
theorem s_forget {Γ : AMG} {Q : QQ} {d : Nat} {I : II} {Lg : LJ} {R : RR} {gc : Nat → Nat} (h : ∀ I' : II, FrI (V0 [91]) I I' → (∀ j, j < 24 → I' 91 0 j = zI (-1)) → Q none I' Lg R (GM gc)) : am_Sp Γ (d + 1) 0 0 mX3_forget [vR 3 0] I Lg R (GM gc) Q := by
  refine am_run vX3_forget 40 _ rfl rfl rfl rfl ?_
  refine s_fill (c := 22) (i := 0) (N := 24) (v := 91) rfl (by omega) (fun I1 h1 => ?_)
  refine h I1 (fun v i hv => ?_) (fun j hj => ?_)
  · funext j
    rw [h1, if_neg]
    rintro ⟨q, -, -⟩
    rw [q] at hv
    revert hv
    exact fun z => by (cases z)
  · rw [h1, if_pos ⟨rfl, rfl, hj⟩]
set_option maxRecDepth 100000 in
theorem s_score {Γ : AMG} {Q : QQ} {d : Nat} {I : II} {Lg : LJ} {R : RR} {gc : Nat → Nat} {sz : Nat} {bs : Nat → Int} {l : List MC} (hW : SWok Γ) (hK : KWok Γ) (hb : BSsok sz bs) (hl : MCsok l) (hx : CTx I sz bs l)
    (hF : ∀ e : FLT, scoreA sz bs l = .inr e → ∀ (I' : II) (R' : RR), FrC R R' → FrI VSF I I' → I' 39 0 0 = zI 0 → CFl I' e → Q (some (vI (zI (-1 - e.2)))) I' Lg R' (GM gc))
    (hS : ∀ L : LST, scoreA sz bs l = .inl L → LSv l 4000 L → L.length ≤ 24 → ∀ (I' : II) (R' : RR), FrC R R' → FrI (V0 ssv) I I' → I' 39 0 0 = zI 0 → I' 37 0 0 = zI 0 → PlanAt I' 9 (srt L, false) → (∀ j, j < 24 → I' 91 0 j = zI (-1)) → Q (some (vI (zI L.length))) I' Lg R' (GM gc)) :
    am_Sp Γ (d + 9) 0 0 mX11_score [vR 11 0] I Lg R (GM gc) Q := by
  have hsz := hb.1
  refine am_runN vX11_score 8 _ rfl rfl rfl rfl ?_
  refine s_understands hW hK hb hl hx (fun e he I1 R1 r1 f1 m1 => ?_) (fun L hL hv h24 I1 R1 r1 f1 k1 p1 => ?_)
  · refine And.intro (fun _ => ?_) (fun c => ?_)
    · refine am_goN vX11_score 6 ?_
      refine fun x1 ex1 => ?_
      refine am_goN vX11_score 3 ?_
      refine s_clear ?_
      refine am_goN vX11_score 2 ?_
      have f2 : FrI (V0 [39]) I1 (up3 I1 39 0 0 (zI 0)) := FrI.rf.up rfl
      have hh := hF e he _ R1 r1 ((VRD_VSF f1).tr (f2.mono (fun v i q => by
        unfold VSF at q
        exact V0_sub (by decide) (Bool.or_eq_false_iff.mp q).1))) (up3_s ..) ⟨by rw [f2 _ _ rfl]; exact m1.1, by rw [f2 _ _ rfl]; exact m1.2⟩
      rw [← zI_sub, ← m1.2] at hh
      rw [ex1]
      exact hh
    · rw [zI_toInt (by omega) (by omega)] at c
      omega
  · refine And.intro (fun c => ?_) (fun _ => ?_)
    · rw [zI_toInt (by omega) (by omega)] at c
      omega
    refine am_goN vX11_score 6 ?_
    refine s_becomes p1 (by decide) (fun e he => ?_) (fun I2 f2 p2 => ?_)
    · obtain ⟨a1, a2, -⟩ := hv e he
      exact ⟨by omega, by omega⟩
    refine am_goN vX11_score 3 ?_
    refine s_forget (fun I3 f3 d3 => ?_)
    refine am_goN vX11_score 4 ?_
    refine fun x1 ex1 => ?_
    refine am_goN vX11_score 4 ?_
    refine s_clear ?_
    refine am_goN vX11_score 2 ?_
    have f4 : FrI (V0 [39]) I3 (up3 I3 39 0 0 (zI 0)) := FrI.rf.up rfl
    have p3 : PlanAt I3 9 (srt L, false) := p2.fr f3 (fun v hv => V0_outI (by decide) v hv 9)
    have hsl : I3 33 9 0 = zI L.length := by
      rw [p3.1]
      show zI ((srt L).length : Nat) = _
      rw [srt_len]
    have hh := hS L hL hv h24 _ R1 r1 (((VSF_ssv (VRD_VSF f1)).tr ((f2.mono (fun v i q => by
      unfold V1
      have h2 := V0_sub (l := pvars) (v := v) (i := i) (by decide) q
      unfold V0 at h2
      rw [h2]
      rfl)).tr ((f3.mono (fun v i q => V0_sub (by decide) q)).tr (f4.mono (fun v i q => V0_sub (by decide) q)))))) (up3_s ..) (by rw [f4 _ _ rfl, f3 _ _ rfl, f2 _ _ (V1_out (vs := [37]) (by decide) _ (by decide) _)]; exact k1) (p3.fr f4 (fun v hv => V0_outI (by decide) v hv 9)) (fun j hj => by rw [f4 _ _ rfl]; exact d3 j hj)
    rw [← hsl] at hh
    rw [ex1]
    exact hh

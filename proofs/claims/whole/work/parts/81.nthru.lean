/-! A night, gone through. -/
abbrev NS : Type := List NB × (Nat → Int32) × NST
def evN (l : List MC) (tk : Int) : List EV → NS → NS × List EV
  | [], s => (s, [])
  | e :: r, s => if e.1 = tk then evN l tk r (useB l e s.1, useG l e s.2.1, useS l e s.2.2) else (s, e :: r)
def tkN (rn : Nat → RUN) (tk : Int) (s : NS) : NS := (s.1.map (stpB rn s.2.1), s.2.1, bmpL tk (prN rn s.2.1 s.1) (rollL rn s.2.1 tk s.1 s.2.2))
def nightN (rn : Nat → RUN) (l : List MC) : Nat → Int → NS → List EV → NS
  | 0, _, s, _ => s
  | f + 1, tk, s, es => nightN rn l f (tk + 1) (evN l tk es (tkN rn tk s)).1 (evN l tk es (tkN rn tk s)).2
def NS0 : NS := ([], fun _ => zI 0, ((zI 0, zI 0, zI 0, zI 0, zI 0), []))
def nightA (rn : Nat → RUN) (l : List MC) (es : List EV) : NS := nightN rn l 4401 0 NS0 es
def EVsrt (es : List EV) : Prop := ∀ (j k : Nat) (a b : EV), j ≤ k → es[j]? = some a → es[k]? = some b → a.1 ≤ b.1
theorem EVsrt.drop {es : List EV} {tk : Int} (h : EVsrt es) {k : Nat} {e : EV} (he : es[k]? = some e) (ht : tk ≤ e.1) : ∀ x ∈ es.drop k, tk ≤ x.1 := by
  intro x hx
  obtain ⟨j, hj⟩ := List.mem_iff_getElem?.mp hx
  rw [List.getElem?_drop] at hj
  have := h k (k + j) e x (by omega) he hj
  omega
theorem map_ok {rn : Nat → RUN} {gs : Nat → Int32} {B : List NB} (hrn : RNSok rn) (hB : ∀ b ∈ B, NBok rn b) : ∀ b ∈ B.map (stpB rn gs), NBok rn b := by
  intro b hb
  obtain ⟨x, hx, rfl⟩ := List.mem_map.mp hb
  exact (stp_ok hrn (hB x hx)).1
def StillOk (rn : Nat → RUN) (I : II) (B : List NB) : Prop := I 31 0 0 = zI 0 ∨ (I 31 0 0 = zI 1 ∧ ∀ b ∈ B, NBrest rn b)
/-- the state of the loops -/
def NInv (rn : Nat → RUN) (S : PS) (I' : II) (k : Nat) (s : NS) : Prop := k ≤ S.1.length ∧ CNS I' s.1 s.2.1 s.2.2 ∧ s.1.length + (S.1.length - k) ≤ 24 ∧ (∀ b ∈ s.1, NBok rn b) ∧ StillOk rn I' s.1
theorem use_loop {Γ : AMG} {Q : QQ} {d : Nat} {x5 : Int32} {I : II} {Lg : LJ} {R : RR} {gc : Nat → Nat} {rn : Nat → RUN} {l : List MC} {S : PS} {tk : Int} (hrn : RNSok rn) (hl : MCsok l) (hm : CMAt I l) (hd : HDok rn l) (hp : PlanAt I 9 S) (hes : EVsok l S.1) (hes2 : EVsok2 l S.1) (hx5 : x5 = zI tk) (ht0 : 0 ≤ tk) (ht1 : tk ≤ 4400) (hsr : EVsrt S.1) :
    ∀ (m k : Nat) (x4 : Int32) (I1 : II) (s : NS), k + m = S.1.length → x4 = zI k → (∀ e ∈ S.1.drop k, tk ≤ e.1) → FrI VNT I I1 → NInv rn S I1 k s → I1 30 0 0 = zI tk →
      (∀ (I' : II) (k' : Nat) (x4 : Int32), FrI VNT I I' → x4 = zI k' → S.1.drop k' = (evN l tk (S.1.drop k) s).2 → (∀ e ∈ S.1.drop k', tk + 1 ≤ e.1) → NInv rn S I' k' (evN l tk (S.1.drop k) s).1 → am_J Γ mX6_goThrough Q (d + 5) 0 0 122 [some (vR 6 0), some (vR 8 9), some (vR 5 0), some (vR 61 0), some (vI x4), some (vI x5)] [] I' Lg R (GM gc)) →
      am_J Γ mX6_goThrough Q (d + 5) 0 0 79 [some (vR 6 0), some (vR 8 9), some (vR 5 0), some (vR 61 0), some (vI x4), some (vI x5)] [] I1 Lg R (GM gc) := by
  intro m
  have hSl := hes.1
  have ht5 : x5.toInt = tk := by rw [hx5, zI_toInt (by omega) (by omega)]
  have stay : ∀ (k : Nat) (x4 : Int32) (I1 : II) (s : NS), x4 = zI k → FrI VNT I I1 → NInv rn S I1 k s → (∀ e ∈ S.1.drop k, tk + 1 ≤ e.1) → evN l tk (S.1.drop k) s = (s, S.1.drop k) →
      (∀ (I' : II) (k' : Nat) (x4 : Int32), FrI VNT I I' → x4 = zI k' → S.1.drop k' = (evN l tk (S.1.drop k) s).2 → (∀ e ∈ S.1.drop k', tk + 1 ≤ e.1) → NInv rn S I' k' (evN l tk (S.1.drop k) s).1 → am_J Γ mX6_goThrough Q (d + 5) 0 0 122 [some (vR 6 0), some (vR 8 9), some (vR 5 0), some (vR 61 0), some (vI x4), some (vI x5)] [] I' Lg R (GM gc)) →
      am_J Γ mX6_goThrough Q (d + 5) 0 0 122 [some (vR 6 0), some (vR 8 9), some (vR 5 0), some (vR 61 0), some (vI x4), some (vI x5)] [] I1 Lg R (GM gc) := by
    intro k x4 I1 s hx hf hN hr he h
    rw [he] at h
    exact h I1 k x4 hf hx rfl hr hN
  induction m with
  | zero =>
    intro k x4 I1 s hk hx hr hf hN hnow h
    have hp1 : PlanAt I1 9 S := hp.fr hf (fun v hv => VNT_out (by decide) v hv _)
    have hst : (I1 33 9 0).toInt = S.1.length := by rw [hp1.1, zI_toInt (by omega) (by omega)]
    have hd0 : S.1.drop k = [] := List.drop_of_length_le (by omega)
    refine am_goN vX6_goThrough 4 ?_
    refine And.intro (fun c => ?_) (fun c => ?_)
    · exact stay k x4 I1 s hx hf hN (by rw [hd0]; exact fun e he => absurd he List.not_mem_nil) (by rw [hd0]; rfl) h
    · rw [hst, hx, zI_toInt (by omega) (by omega)] at c
      omega
  | succ m ih =>
    intro k x4 I1 s hk hx hr hf hN hnow h
    have hp1 : PlanAt I1 9 S := hp.fr hf (fun v hv => VNT_out (by decide) v hv _)
    have hm1 : CMAt I1 l := hm.fr hf (fun v hv => VNT_out (by decide) v hv _)
    have hst : (I1 33 9 0).toInt = S.1.length := by rw [hp1.1, zI_toInt (by omega) (by omega)]
    have hkl : k < S.1.length := by omega
    have he : S.1[k]? = some S.1[k] := List.getElem?_eq_getElem hkl
    have hdr : S.1.drop k = S.1[k] :: S.1.drop (k + 1) := List.drop_eq_getElem_cons hkl
    generalize S.1[k] = e at he hdr
    have hek := hes.2 k e he
    have hek2 := hes2 k e he
    have hge := hr e (by rw [hdr]; exact List.mem_cons_self)
    have hek0 := hek.1
    have hek1 := hek.2.1
    refine am_goN vX6_goThrough 9 ?_
    refine And.intro (fun c => ?_) (fun c => ?_)
    · rw [hst, hx, zI_toInt (by omega) (by omega)] at c
      omega
    refine s_tickOfE hp1 hx he ?_
    refine And.intro (fun c2 => ?_) (fun c2 => ?_)
    · rw [ht5, zI_toInt (by omega) (by omega)] at c2
      refine stay k x4 I1 s hx hf hN (fun x hx => hsr.drop he (by omega) x hx) ?_ h
      rw [hdr]
      unfold evN
      rw [if_neg (by omega)]
    · rw [ht5, zI_toInt (by omega) (by omega)] at c2
      have het : e.1 = tk := by omega
      rw [hdr] at h
      unfold evN at h
      rw [if_pos het] at h
      obtain ⟨n1, n2, n3, n4, n5⟩ := hN
      refine am_goN vX6_goThrough 11 ?_
      refine s_machineOfE hp1 hx he ?_
      refine s_numberOfE hp1 hx he ?_
      refine s_use (d := d + 1) (e := e) (B := s.1) (gs := s.2.1) (S := s.2.2) hl hm1 hek hek2 rfl rfl (by rw [het]; exact hnow) (by omega) n2 (fun I2 f2 c2' w2 t2 => ?_)
      refine fun y ey => ?_
      refine ih (k + 1) y I2 (useB l e s.1, useG l e s.2.1, useS l e s.2.2) (by omega) (by rw [ey, hx, zI_add]; congr 1) (fun x hx => hr x (by rw [hdr]; exact List.mem_cons_of_mem _ hx)) (hf.tr f2) ⟨by omega, c2', ?_, useB_ok hrn hl hd hek n4, ?_⟩ (by rw [w2, het]) h
      · unfold useB
        dsimp only
        split
        · rw [List.length_append]
          show s.1.length + 1 + _ ≤ 24
          omega
        · omega
      · unfold StillOk
        rw [t2]
        by_cases q : (mof l e.2.1).1 = 0
        · rw [if_pos q]
          exact Or.inl rfl
        · rw [if_neg q]
          unfold useB
          rw [if_neg q]
          exact n5
theorem night_loop {Γ : AMG} {Q : QQ} {d : Nat} {I : II} {Lg : LJ} {R : RR} {gc : Nat → Nat} {rn : Nat → RUN} {l : List MC} {S : PS} (hrn : RNSok rn) (hP : CRunsAt I R rn) (hl : MCsok l) (hm : CMAt I l) (hd : HDok rn l) (hp : PlanAt I 9 S) (hes : EVsok l S.1) (hes2 : EVsok2 l S.1) (hsr : EVsrt S.1) :
    ∀ (m k : Nat) (tk : Int) (x4 x5 : Int32) (I1 : II) (s : NS), tk + m = 4401 → 0 ≤ tk → x4 = zI k → x5 = zI tk → (∀ e ∈ S.1.drop k, tk ≤ e.1) → FrI VNT I I1 → NInv rn S I1 k s →
      (∀ (I' : II), FrI VNT I I' → CNS I' (nightN rn l m tk s (S.1.drop k)).1 (nightN rn l m tk s (S.1.drop k)).2.1 (nightN rn l m tk s (S.1.drop k)).2.2 → Q none I' Lg R (GM gc)) →
      am_J Γ mX6_goThrough Q (d + 5) 0 0 49 [some (vR 6 0), some (vR 8 9), some (vR 5 0), some (vR 61 0), some (vI x4), some (vI x5)] [] I1 Lg R (GM gc) := by
  intro m
  induction m with
  | zero =>
    intro k tk x4 x5 I1 s hm9 h0 hx4 hx5 hr hf hN h
    refine am_goN vX6_goThrough 60 ?_
    refine And.intro (fun c => ?_) (fun c => ?_)
    · exact h I1 hf hN.2.1
    · rw [hx5, zI_toInt (by omega) (by omega), zI_toInt (by omega) (by omega)] at c
      omega
  | succ m ih =>
    intro k tk x4 x5 I1 s hm9 h0 hx4 hx5 hr hf hN h
    unfold nightN at h
    obtain ⟨n1, ⟨c1, c2, c3, c4⟩, n3, n4, n5⟩ := hN
    -- behind the balls
    have k79 : ∀ I3 : II, FrI VNT I I3 → NInv rn S I3 k (tkN rn tk s) → I3 30 0 0 = zI tk → am_J Γ mX6_goThrough Q (d + 5) 0 0 79 [some (vR 6 0), some (vR 8 9), some (vR 5 0), some (vR 61 0), some (vI x4), some (vI x5)] [] I3 Lg R (GM gc) := by
      intro I3 f3 N3 w3
      refine use_loop hrn hl hm hd hp hes hes2 hx5 h0 (by omega) hsr (S.1.length - k) k x4 I3 (tkN rn tk s) (by omega) hx4 hr f3 N3 w3 (fun I4 k' y4 f4 e4 d4 r4 N4 => ?_)
      refine am_goN vX6_goThrough 2 ?_
      refine fun y ey => ?_
      refine ih k' (tk + 1) y4 y I4 _ (by omega) (by omega) e4 (by rw [ey, hx5, zI_add]) r4 f4 N4 (fun I5 f5 N5 => ?_)
      rw [d4] at N5
      exact h I5 f5 N5
    refine am_goN vX6_goThrough 9 ?_
    refine And.intro (fun c => ?_) (fun c => ?_)
    · rw [hx5, zI_toInt (by omega) (by omega), zI_toInt (by omega) (by omega)] at c
      omega
    refine fun y2 ey2 I2 e2 => ?_
    have f2 : FrI (V0 [30]) I1 I2 := by rw [e2]; exact FrI.rf.up rfl
    have f2' : FrI VNT I I2 := hf.tr (f2.toNT (by decide))
    have w2 : I2 30 0 0 = zI tk := by rw [e2, up3_s, ey2, hx5]
    have t2 : I2 31 0 0 = I1 31 0 0 := by rw [f2 _ _ rfl]
    have C2 : CNS I2 s.1 s.2.1 s.2.2 := ⟨CNtAt.fr c1 f2 (V0_out (by decide)), by rw [f2 _ _ rfl]; exact c2, fun j b hj => (c3 j b hj).fr f2 (fun v hv => V0_outI (by decide) v hv _), fun r hr => by rw [f2 _ _ rfl]; exact c4 r hr⟩
    refine And.intro (fun c => ?_) (fun c => ?_)
    · rw [t2] at c
      rcases n5 with n5 | ⟨n5, n6⟩
      · rw [n5, zI_toInt (by omega) (by omega)] at c
        omega
      have hrest : ∀ b ∈ s.1, NBok rn b ∧ NBrest rn b := fun b hb => ⟨n4 b hb, n6 b hb⟩
      obtain ⟨g1, g2⟩ := prN_rest (gs := s.2.1) hrn hrest
      have hs : tkN rn tk s = s := by
        unfold tkN
        rw [g1, rollL_rest hrn s.1 _ hrest, bmpL_no _ _ g2]
      refine k79 I2 f2' ?_ w2
      rw [hs]
      exact ⟨n1, C2, n3, n4, Or.inr ⟨by rw [t2]; exact n5, n6⟩⟩
    · refine am_goN vX6_goThrough 5 ?_
      refine s_rollAll (rn := rn) (gs := s.2.1) (B := s.1) (tk := tk) (S := s.2.2) hrn (fun r hr => (hP r hr).fr f2' (VNT_out (by decide))) n4 (by omega) C2.2.1 C2.2.2.2 w2 C2.1 C2.2.2.1 (fun I3 f3 S3 M3 t3 => ?_)
      have l3 : I3 27 0 0 = zI s.1.length := by rw [f3 _ _ (VRA_out (vs := [27]) (by decide) _ (by decide) _)]; exact C2.2.1
      have w3 : I3 30 0 0 = zI tk := by rw [f3 _ _ (VRA_out (vs := [30]) (by decide) _ (by decide) _)]; exact w2
      refine s_bumpAll (rn := rn) (gs := s.2.1) (B := s.1) (tk := tk) hrn n4 (by omega) l3 w3 M3 S3 (fun I4 f4 S4 => ?_)
      have f3' : FrI VNT I I3 := f2'.tr (f3.mono (fun v i q => VRA_NT q))
      refine k79 I4 (f3'.tr (f4.toNT (by decide))) ⟨n1, ⟨S4, ?_, fun j b hj => ?_, fun r hr => ?_⟩, ?_, map_ok hrn n4, ?_⟩ (by rw [f4 _ _ rfl]; exact w3)
      · rw [f4 _ _ rfl, l3]
        unfold tkN
        rw [List.length_map]
      · unfold tkN at hj
        rw [List.getElem?_map] at hj
        cases hb : s.1[j]? with
        | none => rw [hb] at hj; cases hj
        | some b0 =>
          rw [hb] at hj
          cases hj
          have := M3 j b0 hb
          rw [if_pos (List.getElem?_eq_some_iff.mp hb).1] at this
          exact this.1.fr f4 (fun v hv => V0_outI (by decide) v hv _)
      · rw [f4 _ _ rfl, f3 _ _ (VRA_out (vs := [112]) (by decide) _ (by decide) _)]
        exact C2.2.2.2 r hr
      · unfold tkN
        rw [List.length_map]
        exact n3
      · unfold StillOk
        rw [f4 _ _ rfl]
        refine t3.imp id (fun q => ⟨q.1, fun b hb => ?_⟩)
        unfold tkN at hb
        obtain ⟨x, hx, rfl⟩ := List.mem_map.mp hb
        obtain ⟨j, hj⟩ := List.mem_iff_getElem?.mp hx
        exact q.2 j x (List.getElem?_eq_some_iff.mp hj).1 hj
set_option maxRecDepth 100000 in
theorem s_goThrough {Γ : AMG} {Q : QQ} {d : Nat} {I : II} {Lg : LJ} {R : RR} {gc : Nat → Nat} {rn : Nat → RUN} {l : List MC} {S : PS} (hrn : RNSok rn) (hP : CRunsAt I R rn) (hl : MCsok l) (hm : CMAt I l) (hd : HDok rn l) (hp : PlanAt I 9 S) (hes : EVsok l S.1) (hes2 : EVsok2 l S.1) (hsr : EVsrt S.1)
    (h : ∀ (I' : II), FrI VNT I I' → CNS I' (nightA rn l S.1).1 (nightA rn l S.1).2.1 (nightA rn l S.1).2.2 → Q none I' Lg R (GM gc)) :
    am_Sp Γ (d + 5) 0 0 mX6_goThrough [vR 6 0, vR 8 9, vR 5 0, vR 61 0] I Lg R (GM gc) Q := by
  refine am_runN vX6_goThrough 60 _ rfl rfl rfl rfl ?_
  refine fun y1 ey1 I1 e1 y2 ey2 I2 e2 y3 ey3 I3 e3 y4 ey4 I4 e4 y5 ey5 I5 e5 y6 ey6 I6 e6 => ?_
  refine And.intro (Or.inr rfl) ?_
  refine fun y7 ey7 I7 e7 => ?_
  refine s_fill (c := 45) (i := 0) (N := 4) (v := 112) rfl (by omega) (fun I8 h8 => ?_)
  obtain ⟨f8, g8⟩ := fill_fr h8
  refine fun x4 ex4 x5 ex5 => ?_
  have f7 : FrI (V0 nglv) I I7 := by
    rw [e7, e6, e5, e4, e3, e2, e1]
    exact ((((((FrI.rf.up rfl).up rfl).up rfl).up rfl).up rfl).up rfl).up rfl
  have f8' : FrI (V0 nglv) I7 I8 := f8.mono (fun v i q => by
    unfold V0 at q
    unfold V1
    rw [Bool.and_eq_false_iff]
    left
    have := V0_sub (l := [112]) (l2 := nglv) (i := i) (by decide) q
    exact this)
  refine night_loop hrn hP hl hm hd hp hes hes2 hsr 4401 0 0 x4 x5 I8 NS0 (by omega) (by omega) ex4 ex5 (fun e he => ?_) ((f7.tr f8').mono (fun v i q => by unfold VNT at q; exact (Bool.or_eq_false_iff.mp q).1)) ⟨by omega, ⟨⟨?_, ?_, ?_, ?_, ?_, ?_, by decide, fun k e he => by cases he⟩, ?_, (fun j b hj => by cases hj), fun r hr => ?_⟩, ?_, fun b hb => absurd hb List.not_mem_nil, Or.inr ⟨?_, fun b hb => absurd hb List.not_mem_nil⟩⟩ (fun I9 f9 c9 => h I9 f9 (by rw [List.drop_zero] at c9; unfold nightA; exact c9))
  · rw [List.drop_zero] at he
    obtain ⟨j, hj⟩ := List.mem_iff_getElem?.mp he
    exact (hes.2 j e hj).1
  · rw [f8 _ _ (V1_out (vs := [27]) (by decide) _ (by decide) _), e7, up3_v _ (by decide), e6, up3_v _ (by decide), e5, up3_v _ (by decide), e4, up3_s, ey4]; rfl
  · rw [f8 _ _ (V1_out (vs := [28]) (by decide) _ (by decide) _), e7, up3_v _ (by decide), e6, up3_v _ (by decide), e5, up3_s, ey5]; rfl
  · rw [f8 _ _ (V1_out (vs := [29]) (by decide) _ (by decide) _), e7, up3_v _ (by decide), e6, up3_s, ey6]; rfl
  · rw [f8 _ _ (V1_out (vs := [25]) (by decide) _ (by decide) _), e7, up3_v _ (by decide), e6, up3_v _ (by decide), e5, up3_v _ (by decide), e4, up3_v _ (by decide), e3, up3_v _ (by decide), e2, up3_s, ey2]; rfl
  · rw [f8 _ _ (V1_out (vs := [26]) (by decide) _ (by decide) _), e7, up3_v _ (by decide), e6, up3_v _ (by decide), e5, up3_v _ (by decide), e4, up3_v _ (by decide), e3, up3_s, ey3]; rfl
  · rw [f8 _ _ (V1_out (vs := [24]) (by decide) _ (by decide) _), e7, up3_v _ (by decide), e6, up3_v _ (by decide), e5, up3_v _ (by decide), e4, up3_v _ (by decide), e3, up3_v _ (by decide), e2, up3_v _ (by decide), e1, up3_s, ey1]; rfl
  · rw [f8 _ _ (V1_out (vs := [27]) (by decide) _ (by decide) _), e7, up3_v _ (by decide), e6, up3_v _ (by decide), e5, up3_v _ (by decide), e4, up3_s, ey4]; rfl
  · exact g8 r hr
  · have := hes.1
    show 0 + _ ≤ 24
    omega
  · rw [f8 _ _ (V1_out (vs := [31]) (by decide) _ (by decide) _), e7, up3_s, ey7]
set_option maxRecDepth 100000 in
theorem s_night {Γ : AMG} {Q : QQ} {d : Nat} {I : II} {Lg : LJ} {R : RR} {gc : Nat → Nat} {rn : Nat → RUN} {l : List MC} {S : PS} (hrn : RNSok rn) (hP : CRunsAt I R rn) (hl : MCsok l) (hm : CMAt I l) (hd : HDok rn l) (hp : PlanAt I 9 S) (hes : EVsok l S.1) (hes2 : EVsok2 l S.1) (hsr : EVsrt S.1)
    (h : ∀ (I' : II), FrI VNT I I' → CNAt I' (nightA rn l S.1).2.2 → Q (some (vI (zI (nightA rn l S.1).2.2.2.length))) I' Lg R (GM gc)) :
    am_Sp Γ (d + 6) 0 0 mX11_night [vR 11 0] I Lg R (GM gc) Q := by
  refine am_run vX11_night 60 _ rfl rfl rfl rfl ?_
  refine s_goThrough hrn hP hl hm hd hp hes hes2 hsr (fun I1 f1 c1 => ?_)
  have := h I1 f1 c1.1
  rw [← c1.1.2.2.2.2.2.1] at this
  exact this

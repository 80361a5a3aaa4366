/-! The reference's night: events, all of it. -/
abbrev muv : List Nat := [74, 78, 79, 158, 159, 160, 161, 162, 163, 164, 75, 167]
theorem MBall.fr {I I' : II} {l : List Nat} {k : Nat} {b : NB} (h : MBall I k b) (hf : FrI (V0 l) I I') (hq : mbl.all (fun v => !l.elem v) = true) : MBall I' k b := by
  have hq2 : ∀ v ∈ mbl, V0 l v 0 = false := V0_out hq
  obtain ⟨h1, h2, h3, h4⟩ := h
  exact ⟨by rw [hf _ _ (hq2 _ (by decide))]; exact h1, by rw [hf _ _ (hq2 _ (by decide))]; exact h2, by rw [hf _ _ (hq2 _ (by decide))]; exact h3, by rw [hf _ _ (hq2 _ (by decide))]; exact h4⟩
set_option maxRecDepth 100000 in
theorem s_muse {Γ : AMG} {Q : QQ} {d k : Nat} {x1 : Int32} {I : II} {Lg : LJ} {R : RR} {gc : Nat → Nat} {l : List MC} {es : List EV} {e : EV} {B : List NB} {gs : Nat → Int32} {S : NST} (hl : MCsok l) (hm : MMAt I l) (hp : MPAt I es) (hes : EVsok l es) (he2 : EVok2 l e) (hx1 : x1 = zI k) (he : es[k]? = some e) (hB : B.length < 24) (hN : MNS I B gs S)
    (h : ∀ I' : II, FrI (V0 muv) I I' → MNS I' (useB l e B) (useG l e gs) (useS l e S) → Q none I' Lg R (GM gc)) : am_Sp Γ (d + 1) 0 0 mX12_use [vR 12 0, vI x1] I Lg R (GM gc) Q := by
  have hek := hes.2 k e he
  have hw := ewt_rng hek
  obtain ⟨i1, i2, i3, i4, i5, i6⟩ := mp_ix hm hp hes hl.1 he
  have hxt : x1.toInt = k := by rw [hx1, zI_toInt (by omega) (by omega)]
  have hxn : x1.toInt.toNat = k := by rw [hxt]; omega
  obtain ⟨k0, k1, k2, k3, k4, k5, k6, k7, k8⟩ := hl.2 _ _ i6
  obtain ⟨p1, p2, p3⟩ := hp.2 k e he
  obtain ⟨n1, n2, n3, n4⟩ := hN
  refine am_runN vX12_use 60 _ rfl rfl rfl rfl ?_
  refine And.intro ⟨by omega, by omega⟩ ?_
  rw [hxn]
  refine fun x2 ex2 => ?_
  have hx2 : x2 = zI e.2.1 := by rw [ex2, p2]
  have ht2 : x2.toInt = e.2.1 := by rw [ex2, i2]
  have hn2 : x2.toInt.toNat = e.2.1.toNat := by rw [ht2]
  refine And.intro ⟨by omega, by omega⟩ ?_
  rw [hxn]
  refine s_mworth hl hm hp hes hx1 he ?_
  refine s_mhear (a := e.1) (b := e.2.1) (s := ewt l e) n1 p1 hx2 rfl (fun I1 f1 s1 => ?_)
  have f1' : FrI (V0 muv) I I1 := f1.mono (fun v i h => V0_sub (by decide) h)
  obtain ⟨m1, m2, m3, m4⟩ := (hm.fr f1 (V0_out (by decide))).2 _ _ i6
  have l1 : I1 75 0 0 = zI B.length := by rw [f1 _ _ rfl]; exact n2
  have lt1 : (I1 75 0 0).toInt = B.length := by rw [l1, zI_toInt (by omega) (by omega)]
  have ln1 : (I1 75 0 0).toInt.toNat = B.length := by rw [lt1]; omega
  have b1 : ∀ (j : Nat) (b : NB), B[j]? = some b → MBall I1 j b := fun j b hj => (n3 j b hj).fr f1 (by decide)
  have g1 : ∀ r, r < 4 → I1 167 0 r = gs r := fun r hr => by rw [f1 _ _ rfl]; exact n4 r hr
  unfold useB useG useS at h
  generalize hmc : mof l e.2.1 = mc at *
  have hkt : (I1 142 0 e.2.1.toNat).toInt = mc.1 := by rw [m1, zI_toInt (by omega) (by omega)]
  refine And.intro ⟨by omega, by omega⟩ ?_
  rw [hn2]
  refine And.intro (fun c => ?_) (fun c => ?_)
  · rw [hkt] at c
    rw [if_neg c, if_neg c] at h
    refine And.intro ⟨by omega, by omega⟩ ?_
    rw [hn2]
    refine And.intro (fun c2 => ?_) (fun c2 => ?_)
    · rw [hkt, zI_toInt (by omega) (by omega)] at c2
      rw [if_neg c2] at h
      exact h I1 f1' ⟨s1, l1, b1, g1⟩
    · rw [hkt, zI_toInt (by omega) (by omega)] at c2
      have c2' : mc.1 = 4 := by omega
      rw [if_pos c2'] at h
      have ha := k7 (Or.inr c2')
      have hft : (I1 144 0 e.2.1.toNat).toInt = mc.2.2.1 := by rw [m3, zI_toInt (by omega) (by omega)]
      have p3' : I1 156 0 k = zI e.2.2 := by rw [f1 _ _ rfl]; exact p3
      refine And.intro ⟨by omega, by omega⟩ ?_
      rw [hn2]
      refine And.intro ⟨by omega, by omega⟩ ?_
      rw [hn2]
      refine And.intro ⟨by omega, by omega⟩ ?_
      rw [hft, g1 _ (by omega)]
      refine And.intro ⟨by omega, by omega⟩ ?_
      rw [hn2]
      refine And.intro ⟨by omega, by omega⟩ ?_
      rw [hxn, p3']
      refine And.intro ⟨by omega, by omega⟩ ?_
      rw [hn2, m4]
      refine And.intro ⟨by omega, by omega⟩ ?_
      refine fun y ey I2 e2 => ?_
      have f2 : FrI (V0 [167]) I1 I2 := by rw [e2]; exact FrI.rf.up rfl
      refine h I2 (f1'.tr (f2.mono (fun v i h => V0_sub (by decide) h))) ⟨MNtAt.fr s1 f2 (V0_out (by decide)), by rw [f2 _ _ rfl]; exact l1, fun j b hj => (b1 j b hj).fr f2 (by decide), fun r hr => ?_⟩
      rw [e2, hft, up3_a]
      by_cases q : r = mc.2.2.1.toNat
      · rw [if_pos ⟨rfl, rfl, q⟩]
        dsimp only
        rw [if_pos q, ey, q]
        rfl
      · rw [if_neg (fun z => q z.2.2)]
        dsimp only
        rw [if_neg q]
        exact g1 r hr
  · rw [hkt] at c
    rw [if_pos c, if_neg (by omega), if_pos c] at h
    refine And.intro ⟨by omega, by omega⟩ ?_
    rw [hn2]
    refine And.intro ⟨by omega, by omega⟩ ?_
    rw [ln1]
    refine fun y2 ey2 I2 e2 => ?_
    have q2 : I2 75 0 0 = I1 75 0 0 := by rw [e2, up3_v _ (by decide)]
    refine And.intro ⟨by rw [q2]; omega, by rw [q2]; omega⟩ ?_
    rw [q2, ln1]
    refine fun y3 ey3 I3 e3 => ?_
    have q3 : I3 75 0 0 = I1 75 0 0 := by rw [e3, up3_v _ (by decide), q2]
    refine And.intro ⟨by rw [q3]; omega, by rw [q3]; omega⟩ ?_
    rw [q3, ln1]
    refine fun y4 ey4 I4 e4 => ?_
    have q4 : I4 75 0 0 = I1 75 0 0 := by rw [e4, up3_v _ (by decide), q3]
    refine And.intro ⟨by rw [q4]; omega, by rw [q4]; omega⟩ ?_
    rw [q4, ln1]
    refine fun y5 ey5 I5 e5 => ?_
    refine fun y6 ey6 I6 e6 => ?_
    have q5 : I5 75 0 0 = I1 75 0 0 := by rw [e5, up3_v _ (by decide), q4]
    have f5 : FrI (V0 [161, 162, 163, 164]) I1 I5 := by rw [e5, e4, e3, e2]; exact (((FrI.rf.up rfl).up rfl).up rfl).up rfl
    have f6 : FrI (V0 [75]) I5 I6 := by rw [e6]; exact FrI.rf.up rfl
    have j5 : FrJ B.length I1 I5 := by rw [e5, e4, e3, e2]; exact (((FrJ.rf.up _ _).up _ _).up _ _).up _ _
    have s5 : MNAt I5 (hearN S (e.1, e.2.1, ewt l e)) := MNtAt.fr s1 f5 (V0_out (by decide))
    have s6 := s5.let_ e6 ey6
    have hk6 : (I6 142 0 e.2.1.toNat).toInt = mc.1 := by rw [f6 _ _ rfl, f5 _ _ rfl, hkt]
    have fin := h I6 (f1'.tr ((f5.mono (fun v i h => V0_sub (l2 := muv) (by decide) h)).tr (f6.mono (fun v i h => V0_sub (l2 := muv) (by decide) h)))) ⟨s6, by rw [e6, up3_s, ey6, q5, l1, zI_add, List.length_append]; rfl, fun j b hj => by
      rcases app_get hj with ⟨hj1, hj2⟩ | ⟨hj1, hj2⟩
      · subst hj1
        subst hj2
        refine MBall.fr (l := [75]) ⟨?_, ?_, ?_, ?_⟩ f6 (by decide)
        · rw [e5, up3_v _ (by decide), e4, up3_v _ (by decide), e3, up3_v _ (by decide), e2, up3_s, ey2]; exact m3
        · rw [e5, up3_v _ (by decide), e4, up3_v _ (by decide), e3, up3_s, ey3]
        · rw [e5, up3_v _ (by decide), e4, up3_s, ey4]
        · rw [e5, up3_s, ey5]
      · exact ((b1 j b hj2).j j5 hj1).fr f6 (by decide), fun r hr => by rw [f6 _ _ rfl, f5 _ _ rfl]; exact g1 r hr⟩
    refine And.intro ⟨by omega, by omega⟩ ?_
    rw [hn2]
    refine And.intro (fun c2 => ?_) (fun c2 => ?_)
    · exact fin
    · rw [hk6, zI_toInt (by omega) (by omega)] at c2
      omega
abbrev mnv8 : List Nat := 75 :: 161 :: 167 :: mnl
abbrev mnv9 : List Nat := 47 :: mnv8
def NMnv (rn : Nat → RUN) (es : List EV) (I' : II) (k : Nat) (s : NS) : Prop := k ≤ es.length ∧ MNS I' s.1 s.2.1 s.2.2 ∧ s.1.length + (es.length - k) ≤ 24 ∧ (∀ b ∈ s.1, NBok rn b)
theorem muse_loop {Γ : AMG} {Q : QQ} {d : Nat} {x2 : Int32} {I : II} {Lg : LJ} {R : RR} {gc : Nat → Nat} {rn : Nat → RUN} {l : List MC} {es : List EV} {tk : Int} (hrn : RNSok rn) (hl : MCsok l) (hm : MMAt I l) (hd : HDok rn l) (hp : MPAt I es) (hes : EVsok l es) (hes2 : EVsok2 l es) (hx2 : x2 = zI tk) (ht0 : 0 ≤ tk) (ht1 : tk ≤ 4400) :
    ∀ (m k : Nat) (x1 : Int32) (I1 : II) (s : NS), k + m = es.length → x1 = zI k → FrI (V0 mnv8) I I1 → NMnv rn es I1 k s →
      (∀ (I' : II) (k' : Nat) (x1 : Int32), FrI (V0 mnv8) I I' → x1 = zI k' → es.drop k' = (evN l tk (es.drop k) s).2 → NMnv rn es I' k' (evN l tk (es.drop k) s).1 → am_J Γ mX12_night Q (d + 4) 0 0 100 [some (vR 12 0), some (vI x1), some (vI x2)] [] I' Lg R (GM gc)) →
      am_J Γ mX12_night Q (d + 4) 0 0 71 [some (vR 12 0), some (vI x1), some (vI x2)] [] I1 Lg R (GM gc) := by
  intro m
  have hSl := hes.1
  have ht2 : x2.toInt = tk := by rw [hx2, zI_toInt (by omega) (by omega)]
  induction m with
  | zero =>
    intro k x1 I1 s hk hx hf hN h
    have hst : (I1 72 0 0).toInt = es.length := by rw [hf _ _ rfl, hp.1, zI_toInt (by omega) (by omega)]
    have hd0 : es.drop k = [] := List.drop_of_length_le (by omega)
    refine am_goN vX12_night 4 ?_
    refine And.intro (fun c => ?_) (fun c => ?_)
    · refine h I1 k x1 hf hx ?_ ?_
      · rw [hd0]; rfl
      · rw [hd0]; exact hN
    · rw [hst, hx, zI_toInt (by omega) (by omega)] at c
      omega
  | succ m ih =>
    intro k x1 I1 s hk hx hf hN h
    have hp1 : MPAt I1 es := hp.fr hf (V0_out (by decide))
    have hm1 : MMAt I1 l := hm.fr hf (V0_out (by decide))
    have hst : (I1 72 0 0).toInt = es.length := by rw [hp1.1, zI_toInt (by omega) (by omega)]
    have hkl : k < es.length := by omega
    have he : es[k]? = some es[k] := List.getElem?_eq_getElem hkl
    have hdr : es.drop k = es[k] :: es.drop (k + 1) := List.drop_eq_getElem_cons hkl
    generalize es[k] = e at he hdr
    have hek := hes.2 k e he
    have hek2 := hes2 k e he
    have hek0 := hek.1
    have hek1 := hek.2.1
    have hxt : x1.toInt = k := by rw [hx, zI_toInt (by omega) (by omega)]
    have hxn : x1.toInt.toNat = k := by rw [hxt]; omega
    have htk : (I1 154 0 k).toInt = e.1 := by rw [(hp1.2 k e he).1, zI_toInt (by omega) (by omega)]
    refine am_goN vX12_night 10 ?_
    refine And.intro (fun c => ?_) (fun c => ?_)
    · rw [hst, hxt] at c
      omega
    refine And.intro ⟨by omega, by omega⟩ ?_
    rw [hxn]
    refine And.intro (fun c2 => ?_) (fun c2 => ?_)
    · rw [htk, ht2] at c2
      have he1 : evN l tk (es.drop k) s = (s, es.drop k) := by
        rw [hdr]
        unfold evN
        rw [if_neg c2]
      rw [he1] at h
      exact h I1 k x1 hf hx rfl hN
    · rw [htk, ht2] at c2
      rw [hdr] at h
      unfold evN at h
      rw [if_pos c2] at h
      obtain ⟨n1, n2, n3, n4⟩ := hN
      refine am_goN vX12_night 5 ?_
      refine s_muse (k := k) (e := e) (B := s.1) (gs := s.2.1) (S := s.2.2) hl hm1 hp1 hes hek2 hx he (by omega) n2 (fun I2 f2 c2' => ?_)
      refine fun y ey => ?_
      refine ih (k + 1) y I2 (useB l e s.1, useG l e s.2.1, useS l e s.2.2) (by omega) (by rw [ey, hx, zI_add]; congr 1) (hf.tr (f2.mono (fun v i h => V0_sub (by decide) h))) ⟨by omega, c2', ?_, useB_ok hrn hl hd hek n4⟩ h
      unfold useB
      dsimp only
      split
      · rw [List.length_append]
        show s.1.length + 1 + _ ≤ 24
        omega
      · omega
theorem mnight_loop {Γ : AMG} {Q : QQ} {d : Nat} {I : II} {Lg : LJ} {R : RR} {gc : Nat → Nat} {rn : Nat → RUN} {l : List MC} {es : List EV} (hrn : RNSok rn) (hP : MRunsAt I rn) (hl : MCsok l) (hm : MMAt I l) (hd : HDok rn l) (hp : MPAt I es) (hes : EVsok l es) (hes2 : EVsok2 l es) :
    ∀ (m k : Nat) (tk : Int) (x1 x2 : Int32) (I1 : II) (s : NS), tk + m = 4401 → 0 ≤ tk → x1 = zI k → x2 = zI tk → FrI (V0 mnv8) I I1 → NMnv rn es I1 k s →
      (∀ (I' : II), FrI (V0 mnv8) I I' → MNS I' (nightN rn l m tk s (es.drop k)).1 (nightN rn l m tk s (es.drop k)).2.1 (nightN rn l m tk s (es.drop k)).2.2 → Q (some (vI (I' 74 0 0))) I' Lg R (GM gc)) →
      am_J Γ mX12_night Q (d + 4) 0 0 59 [some (vR 12 0), some (vI x1), some (vI x2)] [] I1 Lg R (GM gc) := by
  intro m
  induction m with
  | zero =>
    intro k tk x1 x2 I1 s hm9 h0 hx1 hx2 hf hN h
    refine am_goN vX12_night 60 ?_
    refine And.intro (fun c => ?_) (fun c => ?_)
    · exact h I1 hf hN.2.1
    · rw [hx2, zI_toInt (by omega) (by omega), zI_toInt (by omega) (by omega)] at c
      omega
  | succ m ih =>
    intro k tk x1 x2 I1 s hm9 h0 hx1 hx2 hf hN h
    unfold nightN at h
    obtain ⟨n1, n2, n3, n4⟩ := hN
    refine am_goN vX12_night 6 ?_
    refine And.intro (fun c => ?_) (fun c => ?_)
    · rw [hx2, zI_toInt (by omega) (by omega), zI_toInt (by omega) (by omega)] at c
      omega
    refine s_mrollAll (d := d) (s := s) (tk := tk) hrn ⟨fun r hr => ⟨by rw [hf _ _ rfl]; exact (hP.1 r hr).1, fun g => ((hP.1 r hr).2 g).fr hf (V0_out (by decide))⟩, fun v => by rw [hf _ _ rfl]; exact hP.2 v⟩ n4 (by omega) n2 hx2 (fun I2 f2 N2 => ?_)
    have f2' : FrI (V0 mnv8) I I2 := hf.tr (f2.mono (fun v i h => V0_sub (by decide) h))
    refine muse_loop hrn hl hm hd hp hes hes2 hx2 h0 (by omega) (es.length - k) k x1 I2 (tkN rn tk s) (by omega) hx1 f2' ⟨n1, N2, ?_, map_ok hrn n4⟩ (fun I4 k' y4 f4 e4 d4 N4 => ?_)
    · unfold tkN
      rw [List.length_map]
      exact n3
    refine am_goN vX12_night 2 ?_
    refine fun y ey => ?_
    refine ih k' (tk + 1) y4 y I4 _ (by omega) (by omega) e4 (by rw [ey, hx2, zI_add]) f4 N4 (fun I5 f5 N5 => ?_)
    rw [d4] at N5
    exact h I5 f5 N5
theorem mgates_loop {Γ : AMG} {Q : QQ} {d : Nat} {I : II} {Lg : LJ} {R : RR} {gc : Nat → Nat} (h : ∀ I' : II, FrI (V0 [167]) I I' → (∀ r, r < 4 → I' 167 0 r = zI 0) → am_J Γ mX12_night Q (d + 4) 0 0 55 [some (vR 12 0), none, none] [] I' Lg R (GM gc)) :
    ∀ (m n : Nat) (x1 : Int32) (l2 : Option AV) (I1 : II), n + m = 4 → x1 = zI n → FrI (V0 [167]) I I1 → (∀ r, r < n → I1 167 0 r = zI 0) →
      am_J Γ mX12_night Q (d + 4) 0 0 37 [some (vR 12 0), some (vI x1), l2] [] I1 Lg R (GM gc) := by
  intro m
  induction m with
  | zero =>
    intro n x1 l2 I1 hm hx hf hg
    refine am_goN vX12_night 3 ?_
    refine And.intro (fun c => ?_) (fun c => ?_)
    · exact am_J.er [true, false, false] (h I1 hf (fun r hr => hg r (by omega)))
    · rw [hx, zI_toInt (by omega) (by omega), zI_toInt (by omega) (by omega)] at c
      omega
  | succ m ih =>
    intro n x1 l2 I1 hm hx hf hg
    have hxt : x1.toInt = n := by rw [hx, zI_toInt (by omega) (by omega)]
    have hxn : x1.toInt.toNat = n := by rw [hxt]; omega
    refine am_goN vX12_night 60 ?_
    refine And.intro (fun c => ?_) (fun c => ?_)
    · rw [hxt, zI_toInt (by omega) (by omega)] at c
      omega
    refine And.intro ⟨by omega, by omega⟩ ?_
    rw [hxn]
    refine fun y2 ey2 I2 e2 => ?_
    refine fun y ey => ?_
    refine ih (n + 1) y l2 I2 (by omega) (by rw [ey, hx, zI_add]; congr 1) (by rw [e2]; exact hf.up rfl) (fun r hr => ?_)
    rw [e2, up3_a]
    by_cases q : r = n
    · rw [if_pos ⟨rfl, rfl, q⟩, ey2]
    · rw [if_neg (fun z => q z.2.2)]
      exact hg r (by omega)
set_option maxRecDepth 100000 in
theorem s_mnight {Γ : AMG} {Q : QQ} {d : Nat} {I : II} {Lg : LJ} {R : RR} {gc : Nat → Nat} {rn : Nat → RUN} {l : List MC} {es : List EV} (hrn : RNSok rn) (hP : MRunsAt I rn) (hl : MCsok l) (hm : MMAt I l) (hd : HDok rn l) (hp : MPAt I es) (hes : EVsok l es) (hes2 : EVsok2 l es)
    (h : ∀ (I' : II), FrI (V0 mnv9) I I' → I' 47 0 0 = zI 0 → MNAt I' (nightA rn l es).2.2 → Q (some (vI (zI (nightA rn l es).2.2.2.length))) I' Lg R (GM gc)) :
    am_Sp Γ (d + 4) 0 0 mX12_night [vR 12 0] I Lg R (GM gc) Q := by
  refine am_runN vX12_night 60 _ rfl rfl rfl rfl ?_
  refine fun y1 ey1 I1 e1 y2 ey2 I2 e2 y3 ey3 I3 e3 y4 ey4 I4 e4 y5 ey5 I5 e5 y6 ey6 I6 e6 y7 ey7 I7 e7 => ?_
  have f7 : FrI (V0 mnv9) I I7 := by
    rw [e7, e6, e5, e4, e3, e2, e1]
    exact ((((((FrI.rf.up rfl).up rfl).up rfl).up rfl).up rfl).up rfl).up rfl
  refine fun x1 ex1 => ?_
  refine mgates_loop (I := I7) (fun I8 f8 g8 => ?_) 4 0 x1 _ I7 rfl ex1 FrI.rf (fun r hr => absurd hr (by omega))
  refine am_goN vX12_night 60 ?_
  refine fun z1 ez1 z2 ez2 => ?_
  have f8' : FrI (V0 mnv8) I7 I8 := f8.mono (fun v i h => V0_sub (by decide) h)
  have f78 : FrI (V0 mnv9) I I8 := f7.tr (f8.mono (fun v i h => V0_sub (by decide) h))
  refine mnight_loop (I := I8) hrn ⟨fun r hr => ⟨?_, fun g => ((hP.1 r hr).2 g).fr f78 (V0_out (by decide))⟩, fun v => ?_⟩ hl (hm.fr f78 (V0_out (by decide))) hd (hp.fr f78 (V0_out (by decide))) hes hes2 4401 0 0 z1 z2 I8 NS0 (by omega) (by omega) ez1 ez2 FrI.rf ⟨by omega, ⟨⟨?_, ?_, ?_, ?_, ?_, ?_, by decide, fun k e he => by cases he⟩, ?_, (fun j b hj => by cases hj), fun r hr => g8 r hr⟩, ?_, fun b hb => absurd hb List.not_mem_nil⟩ (fun I9 f9 c9 => ?_)
  · rw [f78 _ _ rfl]; exact (hP.1 r hr).1
  · rw [f78 _ _ rfl]; exact hP.2 v
  · rw [f8 _ _ rfl, e7, up3_v _ (by decide), e6, up3_v _ (by decide), e5, up3_v _ (by decide), e4, up3_v _ (by decide), e3, up3_s, ey3]; rfl
  · rw [f8 _ _ rfl, e7, up3_v _ (by decide), e6, up3_v _ (by decide), e5, up3_v _ (by decide), e4, up3_s, ey4]; rfl
  · rw [f8 _ _ rfl, e7, up3_v _ (by decide), e6, up3_v _ (by decide), e5, up3_s, ey5]; rfl
  · rw [f8 _ _ rfl, e7, up3_v _ (by decide), e6, up3_s, ey6]; rfl
  · rw [f8 _ _ rfl, e7, up3_s, ey7]; rfl
  · rw [f8 _ _ rfl, e7, up3_v _ (by decide), e6, up3_v _ (by decide), e5, up3_v _ (by decide), e4, up3_v _ (by decide), e3, up3_v _ (by decide), e2, up3_s, ey2]; rfl
  · rw [f8 _ _ rfl, e7, up3_v _ (by decide), e6, up3_v _ (by decide), e5, up3_v _ (by decide), e4, up3_v _ (by decide), e3, up3_s, ey3]; rfl
  · have := hes.1
    show 0 + _ ≤ 24
    omega
  · rw [List.drop_zero] at c9
    have hh := h I9 (f78.tr (f9.mono (fun v i h => V0_sub (by decide) h))) (by rw [f9 _ _ rfl, f8 _ _ rfl, e7, up3_v _ (by decide), e6, up3_v _ (by decide), e5, up3_v _ (by decide), e4, up3_v _ (by decide), e3, up3_v _ (by decide), e2, up3_v _ (by decide), e1, up3_s, ey1]) (by unfold nightA; exact c9.1)
    unfold nightA at hh
    rw [← c9.1.2.2.2.2.2.1] at hh
    exact hh

/-! The reference reads a play. -/
def nmL (P : PP) : List (List Int) := P.2.1.map (fun s => s.1) ++ (match P.2.2.1 with
  | none => []
  | some w => [w])
theorem nmL_len {P : PP} : (nmL P).length = P.2.1.length + inS P := by
  unfold nmL inS
  rw [List.length_append, List.length_map]
  cases P.2.2.1 <;> rfl
theorem nmL_c {P : PP} {j : Nat} (h : j < P.2.1.length) : ∃ s, P.2.1[j]? = some s ∧ (nmL P)[j]? = some s.1 := by
  refine ⟨P.2.1[j], List.getElem?_eq_getElem h, ?_⟩
  unfold nmL
  rw [List.getElem?_append_left (by rw [List.length_map]; exact h), List.getElem?_map, List.getElem?_eq_getElem h]
  rfl
theorem nmL_o {P : PP} {w : List Int} (h : P.2.2.1 = some w) : (nmL P)[P.2.1.length]? = some w := by
  unfold nmL
  rw [h, List.getElem?_append_right (by rw [List.length_map]; exact Nat.le_refl _), List.length_map, Nat.sub_self]
  rfl
def NMs (Lg : LJ) (N : List (List Int)) : Prop := ∀ (j : Nat) (w : List Int), N[j]? = some w → Lg 1 0 j = zL (hlL w) ∧ LetL w ∧ w.length ≤ 8
theorem MPs.names {I : II} {Lg : LJ} {l : List MC} {P : PP} (h : MPs I Lg P) (hok : PPok l P) : NMs Lg (nmL P) := by
  obtain ⟨h1, h2, h3, h4, h5, h6, h7, h8, h9⟩ := h
  intro j w hj
  have hjl := (List.getElem?_eq_some_iff.mp hj).1
  rw [nmL_len] at hjl
  by_cases q : j < P.2.1.length
  · obtain ⟨s, hs1, hs2⟩ := nmL_c (P := P) q
    rw [hs2] at hj
    cases hj
    exact ⟨(h8 j s hs1).2, (hok.2.2.2.1 j s hs1).1, (hok.2.2.2.1 j s hs1).2.1⟩
  · have hi : inS P = 1 := by have := inS_le (P := P); omega
    have hj2 : j = P.2.1.length := by omega
    subst hj2
    cases hc : P.2.2.1 with
    | none => unfold inS at hi; rw [hc] at hi; cases hi
    | some v =>
      rw [nmL_o hc] at hj
      cases hj
      exact ⟨h9 w hc, hok.2.2.2.2.1 w hc⟩
theorem findS_some {w : List Int} {es : LST} : ∀ (ss : List (List Int × LST)) (j : Nat), ss[j]? = some (w, es) → (∀ (i : Nat) (s : List Int × LST), i < j → ss[i]? = some s → s.1 ≠ w) → findS w ss = some es
  | [], j, h, _ => by simp at h
  | s :: r, 0, h, _ => by
    simp at h
    unfold findS
    rw [h, if_pos rfl]
  | s :: r, j + 1, h, h2 => by
    unfold findS
    rw [if_neg (h2 0 s (by omega) rfl)]
    exact findS_some r j (by simpa using h) (fun i x hi hx => h2 (i + 1) x (by omega) (by simpa using hx))
theorem findS_none {w : List Int} : ∀ (ss : List (List Int × LST)), (∀ (i : Nat) (s : List Int × LST), ss[i]? = some s → s.1 ≠ w) → findS w ss = none
  | [], _ => rfl
  | s :: r, h => by
    unfold findS
    rw [if_neg (h 0 s rfl)]
    exact findS_none r (fun i x hx => h (i + 1) x (by simpa using hx))
theorem stormOf_loop {Γ : AMG} {Q : QQ} {d : Nat} {w : List Int} {I : II} {Lg : LJ} {R : RR} {gc : Nat → Nat} {N : List (List Int)} (hN : NMs Lg N) (hl : N.length ≤ 8) (hs : I 69 0 0 = zI N.length) (hw : LetL w) (hwl : w.length ≤ 8)
    (hy : ∀ j : Nat, N[j]? = some w → (∀ i : Nat, i < j → N[i]? ≠ some w) → Q (some (vI (zI j))) I Lg R (GM gc)) (hn : (∀ i : Nat, N[i]? ≠ some w) → Q (some (vI (zI (-1)))) I Lg R (GM gc)) :
    ∀ (m k : Nat) (x3 : Int32), k + m = N.length → x3 = zI k → (∀ i : Nat, i < k → N[i]? ≠ some w) → am_J Γ mX12_stormOf Q d 0 0 2 [some (vR 12 0), some (vL (zL (hlL w))), none, some (vI x3)] [] I Lg R (GM gc) := by
  have hst : (I 69 0 0).toInt = N.length := by rw [hs, zI_toInt (by omega) (by omega)]
  intro m
  induction m with
  | zero =>
    intro k x3 hm hx hk
    refine am_go vX12_stormOf 40 ?_
    refine And.intro (fun c => ?_) (fun c => ?_)
    · refine hn (fun i q => ?_)
      exact hk i (by have := (List.getElem?_eq_some_iff.mp q).1; omega) q
    · rw [hst, hx, zI_toInt (by omega) (by omega)] at c
      omega
  | succ m ih =>
    intro k x3 hm hx hk
    have hxt : x3.toInt = k := by rw [hx, zI_toInt (by omega) (by omega)]
    have hxn : x3.toInt.toNat = k := by rw [hxt]; omega
    have hkl : k < N.length := by omega
    have he : N[k]? = some N[k] := List.getElem?_eq_getElem hkl
    generalize N[k] = v at he
    obtain ⟨e1, e2, e3⟩ := hN k v he
    have r1 := hlL_rng hw hwl
    have r2 := hlL_rng e2 e3
    refine am_go vX12_stormOf 40 ?_
    refine And.intro (fun c => ?_) (fun c => ?_)
    · rw [hst, hxt] at c
      omega
    refine And.intro ⟨by omega, by omega⟩ ?_
    rw [hxn, e1]
    refine And.intro (fun c2 => ?_) (fun c2 => ?_)
    · refine ih (k + 1) _ (by omega) (by rw [hx, zI_add]; congr 1) (fun i hi => ?_)
      by_cases q : i = k
      · subst q
        rw [he]
        intro z
        cases z
        exact c2 ((lg_cmp0 _ _).mpr rfl)
      · exact hk i (by omega)
    · have hv : v = w := hlL_inj _ _ e2 hw (zL_inj (by omega) (by omega) (by omega) (by omega) ((lg_cmp0 _ _).mp c2))
      subst hv
      have := hy k he hk
      rw [← hx] at this
      exact this
set_option maxRecDepth 100000 in
theorem s_stormOf {Γ : AMG} {Q : QQ} {d : Nat} {x : Int64} {w : List Int} {I : II} {Lg : LJ} {R : RR} {gc : Nat → Nat} {N : List (List Int)} (hN : NMs Lg N) (hl : N.length ≤ 8) (hs : I 69 0 0 = zI N.length) (hx : x = zL (hlL w)) (hw : LetL w) (hwl : w.length ≤ 8)
    (hy : ∀ j : Nat, N[j]? = some w → (∀ i : Nat, i < j → N[i]? ≠ some w) → Q (some (vI (zI j))) I Lg R (GM gc)) (hn : (∀ i : Nat, N[i]? ≠ some w) → Q (some (vI (zI (-1)))) I Lg R (GM gc)) : am_Sp Γ d 0 0 mX12_stormOf [vR 12 0, vL x] I Lg R (GM gc) Q := by
  subst hx
  refine am_run vX12_stormOf 40 _ rfl rfl rfl rfl ?_
  exact stormOf_loop hN hl hs hw hwl hy hn N.length 0 _ (by omega) rfl (fun i hi => absurd hi (by omega))
theorem PPok.nl {l : List MC} {P : PP} (h : PPok l P) : P.2.1.length + inS P ≤ 8 := by
  have := h.1
  unfold inS
  cases hc : P.2.2.1 with
  | none => exact h.1
  | some w => exact h.2.1 (by rw [hc]; exact fun z => by cases z)
set_option maxRecDepth 100000 in
theorem s_mreadPlay {Γ : AMG} {Q : QQ} {d : Nat} {I : II} {Lg : LJ} {R : RR} {gc : Nat → Nat} {sz : Nat} {bs : Nat → Int} {l : List MC} {t : TK} {P : PP} (hb : BSsok sz bs) (hl : MCsok l) (hx : MTx I sz bs l) (ht : TOK sz bs t) (hm : MTk I Lg sz bs t) (ht1 : t.1 = 1) (hP : MPs I Lg P) (hok : PPok l P)
    (hn : ∀ f : FLT, playA sz bs P.2.1 t.en = .inr f → ∀ (I' : II) (Lg' : LJ), FrI (V0 mpv) I I' → FrW Lg Lg' → MFlt I' f → Q (some (vI (zI 0))) I' Lg' R (GM gc))
    (hy : ∀ (p : Nat) (es : LST) (lt : Int), playA sz bs P.2.1 t.en = .inl (p, es, lt) → ∀ (I' : II) (Lg' : LJ), FrI (V0 mpy) I I' → FrW Lg Lg' → I' 62 0 0 = zI p → p ≤ sz → MPs I' Lg' (withL P p (addL P.2.2.2.2.1 P.2.2.2.2.2 (es.map (shE lt)))) → Q (some (vI (zI 1))) I' Lg' R (GM gc)) :
    am_Sp Γ (d + 3) 0 0 mX12_readPlay [vR 12 0] I Lg R (GM gc) Q := by
  have hin := inS_le (P := P)
  have hnl := hok.nl
  unfold playA at hn hy
  refine am_runN vX12_readPlay 5 _ rfl rfl rfl rfl ?_
  refine s_goE hb hx ht hm (Or.inl ht1) hP (fun I1 Lg1 f1 w1 tx1 tk1 mt1 mp1 => ?_)
  generalize tokA sz bs t.en = t1 at *
  refine s_misName hb tk1 mt1 (fun hw => ?_) (fun hw => ?_)
  · rw [if_neg (fun z => z hw)] at hn hy
    refine And.intro (fun _ => ?_) (fun c => ?_)
    · obtain ⟨g1, g2, g3⟩ := mt1.word hb tk1 hw.1
      have hNM := mp1.names hok
      have fault3 : findS (twd bs t1) P.2.1 = none → am_J Γ mX12_readPlay Q (d + 3) 0 0 48 [some (vR 12 0), none, none] [] I1 Lg1 R (GM gc) := by
        intro hf
        rw [hf] at hn
        refine am_goN vX12_readPlay 10 ?_
        refine s_bad mt1 rfl (Or.inr (Or.inl hw.1)) (fun I2 f2 m2 => ?_)
        exact ⟨Or.inl rfl, hn _ rfl I2 Lg1 (f1.trm (mbv_mpv f2)) w1 m2⟩
      refine am_goN vX12_readPlay 8 ?_
      refine s_stormOf (N := nmL P) (w := twd bs t1) hNM (by rw [nmL_len]; exact hnl) (by rw [nmL_len]; exact mp1.1) g1 g2 g3 (fun j hj hj2 => ?_) (fun hno => ?_)
      · refine fun x1 ex1 => ?_
        have hx1t : x1.toInt = j := by
          have := (List.getElem?_eq_some_iff.mp hj).1
          rw [nmL_len] at this
          rw [ex1, zI_toInt (by omega) (by omega)]
        have hjl := (List.getElem?_eq_some_iff.mp hj).1
        rw [nmL_len] at hjl
        refine And.intro (fun c => ?_) (fun _ => ?_)
        · rw [hx1t, zI_toInt (by omega) (by omega)] at c
          omega
        -- the storm is told
        have k54 : ∀ es : LST, P.2.1[j]? = some (twd bs t1, es) → findS (twd bs t1) P.2.1 = some es → am_J Γ mX12_readPlay Q (d + 3) 0 0 54 [some (vR 12 0), some (vI x1), none] [] I1 Lg1 R (GM gc) := by
          intro es hjs hf
          rw [hf] at hn hy
          dsimp only at hn hy
          have hjc := (List.getElem?_eq_some_iff.mp hjs).1
          refine am_goN vX12_readPlay 5 ?_
          refine s_goE hb tx1 tk1 mt1 (Or.inl hw.1) mp1 (fun I2 Lg2 f2 w2 tx2 tk2 mt2 mp2 => ?_)
          generalize tokA sz bs t1.en = t2 at *
          refine s_misAt hb tk2 mt2 (fun hw2 => ?_) (fun hw2 => ?_)
          · have e1 : eWord bs t2 kAt = none := by unfold eWord; rw [if_pos hw2]
            rw [e1] at hn hy
            dsimp only at hn hy
            refine And.intro (fun _ => ?_) (fun c => ?_)
            · refine am_goN vX12_readPlay 7 ?_
              refine s_goE hb tx2 tk2 mt2 (Or.inl hw2.1) mp2 (fun I3 Lg3 f3 w3 tx3 tk3 mt3 mp3 => ?_)
              generalize tokA sz bs t2.en = t3 at *
              refine s_mreadNumber (a := 0) (b := 2000) hb tk3 mt3 rfl rfl (by omega) (by omega) (fun he hv => ?_) (fun f hf2 I4 f4 m4 => ?_)
              · rw [he] at hn hy
                dsimp only at hn hy
                obtain ⟨z1, z2, z3⟩ := eNum_k he
                refine And.intro (fun _ => ?_) (fun c => ?_)
                · refine am_goN vX12_readPlay 8 ?_
                  refine fun x2 ex2 => ?_
                  refine s_goE hb tx3 tk3 mt3 (Or.inr (Or.inl z1)) mp3 (fun I4 Lg4 f4 w4 tx4 tk4 mt4 mp4 => ?_)
                  generalize tokA sz bs t3.en = t4 at *
                  have f14 : FrI (V0 mpy) I I4 := f1.tr (f2.tr (f3.tr f4))
                  have w14 : FrW Lg Lg4 := w1.tr (w2.tr (w3.tr w4))
                  refine s_mreadEnd hb tk4 mt4 (fun hs => ?_) (fun f hf2 I5 f5 m5 => ?_)
                  · rw [hs] at hn hy
                    dsimp only at hn hy
                    refine And.intro (fun _ => ?_) (fun c => ?_)
                    · refine am_goN vX12_readPlay 20 ?_
                      refine s_mpour (i := 6 + j) (j := inS P + P.2.2.2.2.2.length) (lt := t3.val) (M := es) (by have := hok.2.2.1; omega) (by omega) (by have := hok.2.2.1; omega) (by rw [ex1, zI_add]; congr 1) mp4.2.2.2.1 (ex2.trans hv) z2 (by omega) ((mp4.2.2.2.2.2.2.2.1 j _ hjs).1) mp4.inner (fun I5 f5 r5 => ?_)
                      refine ⟨Or.inr rfl, ?_⟩
                      exact hy _ _ _ rfl I5 Lg4 (f14.tr (mlv_mpv f5.1)) w14 (by rw [f5.1 _ _ rfl]; exact mt4.to (Or.inr (Or.inr (eSemi_k hs)))) (tk4.ok hb).2.1 (mp4.add hok.2.2.1 f5 r5)
                    · rw [zI_toInt (by omega) (by omega)] at c
                      omega
                  · rw [hf2] at hn
                    refine And.intro (fun c => ?_) (fun _ => ?_)
                    · rw [zI_toInt (by omega) (by omega)] at c
                      omega
                    refine am_goN vX12_readPlay 5 ?_
                    exact ⟨Or.inl rfl, hn _ rfl I5 Lg4 (f14.trm (mbv_mpv f5)) w14 m5⟩
                · rw [zI_toInt (by omega) (by omega)] at c
                  omega
              · rw [hf2] at hn
                refine And.intro (fun c => ?_) (fun _ => ?_)
                · rw [zI_toInt (by omega) (by omega)] at c
                  omega
                refine am_goN vX12_readPlay 5 ?_
                exact ⟨Or.inl rfl, hn _ rfl I4 Lg3 (f1.trm (f2.trm (f3.trm (mbv_mpv f4)))) (w1.tr (w2.tr w3)) m4⟩
            · rw [zI_toInt (by omega) (by omega)] at c
              omega
          · have e1 : eWord bs t2 kAt = some (1, t2.2.1) := by unfold eWord; rw [if_neg hw2]
            rw [e1] at hn
            refine And.intro (fun c => ?_) (fun _ => ?_)
            · rw [zI_toInt (by omega) (by omega)] at c
              omega
            refine am_goN vX12_readPlay 10 ?_
            refine s_bad mt2 rfl (Or.inl rfl) (fun I3 f3 m3 => ?_)
            exact ⟨Or.inl rfl, hn _ rfl I3 Lg2 (f1.trm (f2.trm (mbv_mpv f3))) (w1.tr w2) m3⟩
        have hini : I1 71 0 0 = zI (inS P) := mp1.2.1
        have hsto : I1 69 0 0 = zI (P.2.1.length + inS P : Nat) := mp1.1
        have closed : j < P.2.1.length → ∃ es, P.2.1[j]? = some (twd bs t1, es) ∧ findS (twd bs t1) P.2.1 = some es := by
          intro hjc
          obtain ⟨s, hs1, hs2⟩ := nmL_c (P := P) hjc
          rw [hs2] at hj
          have hj := Option.some.inj hj
          have hs1' : P.2.1[j]? = some (twd bs t1, s.2) := by rw [← hj]; exact hs1
          refine ⟨s.2, hs1', findS_some _ j hs1' (fun i x hi hx q => ?_)⟩
          obtain ⟨y, hy1, hy2⟩ := nmL_c (P := P) (j := i) (by omega)
          rw [hx] at hy1
          cases hy1
          exact hj2 i hi (by rw [hy2, q])
        refine am_goN vX12_readPlay 3 ?_
        refine And.intro (fun c => ?_) (fun c => ?_)
        · rw [hini, zI_toInt (by omega) (by omega)] at c
          obtain ⟨es, h1, h2⟩ := closed (by omega)
          exact k54 es h1 h2
        · rw [hini, zI_toInt (by omega) (by omega)] at c
          refine am_goN vX12_readPlay 6 ?_
          refine And.intro (fun c2 => ?_) (fun c2 => ?_)
          · rw [hx1t, hsto, zI_sub, zI_toInt (by omega) (by omega)] at c2
            obtain ⟨es, h1, h2⟩ := closed (by omega)
            exact k54 es h1 h2
          · rw [hx1t, hsto, zI_sub, zI_toInt (by omega) (by omega)] at c2
            refine am_J.er [true, false, true] (fault3 (findS_none _ (fun i s hs q => ?_)))
            have hil := (List.getElem?_eq_some_iff.mp hs).1
            obtain ⟨y, hy1, hy2⟩ := nmL_c (P := P) (j := i) (by omega)
            rw [hs] at hy1
            cases hy1
            exact hj2 i (by omega) (by rw [hy2, q])
      · refine fun x1 ex1 => ?_
        refine And.intro (fun _ => ?_) (fun c => ?_)
        · refine am_J.er [true, false, true] (fault3 (findS_none _ (fun i s hs q => ?_)))
          have hil := (List.getElem?_eq_some_iff.mp hs).1
          obtain ⟨y, hy1, hy2⟩ := nmL_c (P := P) (j := i) (by omega)
          rw [hs] at hy1
          cases hy1
          exact hno i (by rw [hy2, q])
        · rw [ex1] at c
          exact absurd rfl c
    · rw [zI_toInt (by omega) (by omega)] at c
      omega
  · rw [if_pos hw] at hn
    refine And.intro (fun c => ?_) (fun _ => ?_)
    · rw [zI_toInt (by omega) (by omega)] at c
      omega
    refine am_goN vX12_readPlay 10 ?_
    refine s_bad mt1 rfl (Or.inl rfl) (fun I2 f2 m2 => ?_)
    exact ⟨Or.inl rfl, hn _ rfl I2 Lg1 (f1.trm (mbv_mpv f2)) w1 m2⟩

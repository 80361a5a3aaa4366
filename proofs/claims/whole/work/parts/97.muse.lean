/-! The reference reads a use. -/
def useT4 (sz : Nat) (bs : Nat → Int) (l : List MC) (tick m : Int) (t4 : TK) : (Nat × EV) ⊕ FLT :=
  if isW bs t4 kWith then
      (match eNum (tokA sz bs t4.en) (leastN (mof l m)) (mostN (mof l m)) with
      | some f => .inr f
      | none => match eSemi (tokA sz bs (tokA sz bs t4.en).en) with
      | some f => .inr f
      | none => .inl ((tokA sz bs (tokA sz bs t4.en).en).en, (tick, m, (tokA sz bs t4.en).val)))
    else (match eSemi t4 with
      | some f => .inr f
      | none => .inl (t4.en, (tick, m, 1)))
def useT3 (sz : Nat) (bs : Nat → Int) (l : List MC) (tick : Int) (t3 : TK) : (Nat × EV) ⊕ FLT := match eNum t3 0 (l.length - 1) with
  | some f => .inr f
  | none => useT4 sz bs l tick t3.val (tokA sz bs t3.en)
def useT2 (sz : Nat) (bs : Nat → Int) (l : List MC) (tick : Int) (t2 : TK) : (Nat × EV) ⊕ FLT := match eWord bs t2 kUse with
  | some f => .inr f
  | none => useT3 sz bs l tick (tokA sz bs t2.en)
theorem useA_2 {sz : Nat} {bs : Nat → Int} {l : List MC} {p : Nat} : useA sz bs l p = match eNum (tokA sz bs p) 0 2000 with
  | some f => .inr f
  | none => useT2 sz bs l (tokA sz bs p).val (tokA sz bs (tokA sz bs p).en) := rfl
theorem eNum_k {t : TK} {a b : Int} (h : eNum t a b = none) : t.1 = 2 ∧ a ≤ t.val ∧ t.val ≤ b := by
  unfold eNum at h
  split at h
  · cases h
  · split at h
    · cases h
    · next q1 q2 =>
      refine ⟨Decidable.byContradiction q1, ?_⟩
      show a ≤ t.2.2.2 ∧ t.2.2.2 ≤ b
      omega
theorem eSemi_k {t : TK} (h : eSemi t = none) : t.1 = 3 := by
  unfold eSemi at h
  split at h
  · next q => exact q
  · cases h
theorem eWord_k {bs : Nat → Int} {t : TK} {w : List Int} (h : eWord bs t w = none) : isW bs t w := by
  unfold eWord at h
  split at h
  · next q => exact q
  · cases h
/-- the text and the machines of the reference -/
def MTx (I : II) (sz : Nat) (bs : Nat → Int) (l : List MC) : Prop := (∀ k, k < sz → I 125 0 k = zI (bs k)) ∧ I 61 0 0 = zI sz ∧ MMAt I l
abbrev mpv : List Nat := [62, 63, 64, 65, 66, 67, 69, 71, 70, 68, 152, 153, 147, 151, 148, 149, 150]
abbrev mpy : List Nat := [62, 63, 64, 65, 69, 71, 70, 68, 152, 153, 147, 151, 148, 149, 150]
theorem FrI.trm {I I' I2 : II} (h : FrI (V0 mpy) I I') (h2 : FrI (V0 mpv) I' I2) : FrI (V0 mpv) I I2 := (h.mono (fun v i q => V0_sub (l2 := mpv) (by decide) q)).tr h2
theorem MTx.fr {I I' : II} {Pr : Nat → Nat → Bool} {sz : Nat} {bs : Nat → Int} {l : List MC} (h : MTx I sz bs l) (hf : FrI Pr I I') (hP : ∀ v ∈ 125 :: 61 :: mmv, Pr v 0 = false) : MTx I' sz bs l := by
  obtain ⟨h1, h2, h3⟩ := h
  exact ⟨fun k hk => by rw [hf _ _ (hP _ (by decide))]; exact h1 k hk, by rw [hf _ _ (hP _ (by decide))]; exact h2, h3.fr hf (fun v hv => hP v (List.mem_cons_of_mem _ (List.mem_cons_of_mem _ hv)))⟩
theorem MTk.to {I : II} {Lg : LJ} {sz : Nat} {bs : Nat → Int} {t : TK} (h : MTk I Lg sz bs t) (hk : t.1 = 1 ∨ t.1 = 2 ∨ t.1 = 3) : I 62 0 0 = zI t.en := by
  rcases hk with hk | hk | hk
  · exact (h.2.2.2.2.2 hk).2.1
  · exact (h.2.2.2.2.1 hk).2.1
  · exact (h.2.2.2.1 hk).2
theorem MTk.fr {I I' : II} {Lg Lg' : LJ} {Pr : Nat → Nat → Bool} {sz : Nat} {bs : Nat → Int} {t : TK} (h : MTk I Lg sz bs t) (hf : FrI Pr I I') (hP : ∀ v ∈ mgv, Pr v 0 = false) (hw : Lg' 0 = Lg 0) : MTk I' Lg' sz bs t := by
  obtain ⟨h1, h2, h3, h4, h5, h6⟩ := h
  refine ⟨?_, fun q => ?_, fun q => ?_, fun q => ⟨?_, ?_⟩, fun q => ⟨?_, ?_, ?_⟩, fun q => ⟨?_, ?_, ?_⟩⟩
  · rw [hf _ _ (hP _ (by decide))]; exact h1
  · rw [hf _ _ (hP _ (by decide))]; exact h2 q
  · rw [hf _ _ (hP _ (by decide))]; exact h3 q
  · rw [hf _ _ (hP _ (by decide))]; exact (h4 q).1
  · rw [hf _ _ (hP _ (by decide))]; exact (h4 q).2
  · rw [hf _ _ (hP _ (by decide))]; exact (h5 q).1
  · rw [hf _ _ (hP _ (by decide))]; exact (h5 q).2.1
  · rw [hf _ _ (hP _ (by decide))]; exact (h5 q).2.2
  · rw [hf _ _ (hP _ (by decide))]; exact (h6 q).1
  · rw [hf _ _ (hP _ (by decide))]; exact (h6 q).2.1
  · rw [hw]; exact (h6 q).2.2
theorem mgv_mpv {I I' : II} (h : FrI (V0 mgv) I I') : FrI (V0 mpy) I I' := h.mono (fun v i q => V0_sub (l2 := mpy) (by decide) q)
theorem mbv_mpv {I I' : II} (h : FrI (V0 mbv9) I I') : FrI (V0 mpv) I I' := h.mono (fun v i q => V0_sub (l2 := mpv) (by decide) q)
theorem mlv_mpv {I I' : II} (h : FrI (V0 mlv) I I') : FrI (V0 mpy) I I' := h.mono (fun v i q => V0_sub (l2 := mpy) (by decide) q)
/-- one token on -/
theorem s_goE {Γ : AMG} {Q : QQ} {d : Nat} {I : II} {Lg : LJ} {R : RR} {gc : Nat → Nat} {sz : Nat} {bs : Nat → Int} {l : List MC} {t : TK} {P : PP} (hb : BSsok sz bs) (hx : MTx I sz bs l) (ht : TOK sz bs t) (hm : MTk I Lg sz bs t) (hk : t.1 = 1 ∨ t.1 = 2 ∨ t.1 = 3) (hP : MPs I Lg P)
    (h : ∀ (I' : II) (Lg' : LJ), FrI (V0 mpy) I I' → FrW Lg Lg' → MTx I' sz bs l → TOK sz bs (tokA sz bs t.en) → MTk I' Lg' sz bs (tokA sz bs t.en) → MPs I' Lg' P → Q none I' Lg' R (GM gc)) : am_Sp Γ (d + 1) 0 0 mX12_go [vR 12 0] I Lg R (GM gc) Q := by
  have hok := ht.ok hb
  refine s_go hb hx.1 hx.2.1 (hm.to hk) hok.2.1 (fun I1 Lg1 f1 w1 m1 => ?_)
  exact h I1 Lg1 (mgv_mpv f1) w1 (hx.fr f1 (V0_out (by decide))) ⟨t.en, hok.2.1, rfl⟩ m1 (hP.fr f1 (V0_out (by decide)) w1)
set_option maxRecDepth 100000 in
theorem s_mreadUse {Γ : AMG} {Q : QQ} {d : Nat} {x1 : Int32} {tick : Int} {I : II} {Lg : LJ} {R : RR} {gc : Nat → Nat} {sz : Nat} {bs : Nat → Int} {l : List MC} {t : TK} {P : PP} (hb : BSsok sz bs) (hl : MCsok l) (hx : MTx I sz bs l) (ht : TOK sz bs t) (hm : MTk I Lg sz bs t) (hP : MPs I Lg P) (hok : PPok l P) (hx1 : x1 = zI tick) (ht0 : 0 ≤ tick) (ht1 : tick ≤ 2000)
    (hn : ∀ f : FLT, useT2 sz bs l tick t = .inr f → ∀ (I' : II) (Lg' : LJ), FrI (V0 mpv) I I' → FrW Lg Lg' → MFlt I' f → Q (some (vI (zI 0))) I' Lg' R (GM gc))
    (hy : ∀ (p : Nat) (e : EV), useT2 sz bs l tick t = .inl (p, e) → ∀ (I' : II) (Lg' : LJ), FrI (V0 mpy) I I' → FrW Lg Lg' → I' 62 0 0 = zI p → p ≤ sz → MPs I' Lg' (withL P p (addL P.2.2.2.2.1 P.2.2.2.2.2 [e])) → Q (some (vI (zI 1))) I' Lg' R (GM gc)) :
    am_Sp Γ (d + 2) 0 0 mX12_readUse [vR 12 0, vI x1] I Lg R (GM gc) Q := by
  have hll := hl.1
  have hin := inS_le (P := P)
  unfold useT2 at hn hy
  -- the end: readEnd, put
  have k132 : ∀ (I1 : II) (Lg1 : LJ) (x2 x3 : Int32) (l4 : Option AV) (t4 : TK) (m n : Int), FrI (V0 mpy) I I1 → FrW Lg Lg1 → MTx I1 sz bs l → TOK sz bs t4 → MTk I1 Lg1 sz bs t4 → MPs I1 Lg1 P → x2 = zI m → x3 = zI n →
      (∀ f : FLT, eSemi t4 = some f → ∀ (I' : II) (Lg' : LJ), FrI (V0 mpv) I I' → FrW Lg Lg' → MFlt I' f → Q (some (vI (zI 0))) I' Lg' R (GM gc)) →
      (eSemi t4 = none → ∀ (I' : II) (Lg' : LJ), FrI (V0 mpy) I I' → FrW Lg Lg' → I' 62 0 0 = zI t4.en → t4.en ≤ sz → MPs I' Lg' (withL P t4.en (addL P.2.2.2.2.1 P.2.2.2.2.2 [(tick, m, n)])) → Q (some (vI (zI 1))) I' Lg' R (GM gc)) →
      am_J Γ mX12_readUse Q (d + 2) 0 0 132 [some (vR 12 0), some (vI x1), some (vI x2), some (vI x3), l4] [] I1 Lg1 R (GM gc) := by
    intro I1 Lg1 x2 x3 l4 t4 m n f1 w1 tx1 tk1 mt1 mp1 hx2 hx3 hno hye
    refine am_goN vX12_readUse 60 ?_
    refine s_mreadEnd hb tk1 mt1 (fun hs => ?_) (fun f hf I2 f2 m2 => ?_)
    · refine And.intro (fun _ => ?_) (fun c => ?_)
      · obtain ⟨S, hS, rS⟩ := mp1.inner
        refine s_mput (i := inS P + P.2.2.2.2.2.length) (e := (tick, m, n)) mp1.2.2.2.1 (by have := hok.2.2.1; omega) hx1 hx2 hx3 ht0 (by show tick ≤ 1000000; omega) hS (fun I2 f2 c2 => ?_)
        refine ⟨Or.inr rfl, ?_⟩
        refine hye hs I2 Lg1 (f1.tr (mlv_mpv f2.1)) w1 (by rw [f2.1 _ _ rfl]; exact mt1.to (Or.inr (Or.inr (eSemi_k hs)))) (tk1.ok hb).2.1 (mp1.add hok.2.2.1 f2 ⟨_, c2, rS.put⟩)
      · rw [zI_toInt (by omega) (by omega)] at c
        omega
    · refine And.intro (fun c => ?_) (fun _ => ?_)
      · rw [zI_toInt (by omega) (by omega)] at c
        omega
      · exact ⟨Or.inl rfl, hno f hf I2 Lg1 (f1.trm (mbv_mpv f2)) w1 m2⟩
  refine am_runN vX12_readUse 3 _ rfl rfl rfl rfl ?_
  refine s_misUse hb ht hm (fun hw => ?_) (fun hw => ?_)
  · have e1 : eWord bs t kUse = none := by unfold eWord; rw [if_pos hw]
    rw [e1] at hn hy
    dsimp only at hn hy
    unfold useT3 at hn hy
    refine And.intro (fun _ => ?_) (fun c => ?_)
    · refine am_goN vX12_readUse 10 ?_
      refine s_goE hb hx ht hm (Or.inl hw.1) hP (fun I1 Lg1 f1 w1 tx1 tk1 mt1 mp1 => ?_)
      have hml : I1 59 0 0 - zI 1 = zI (l.length - 1) := by rw [tx1.2.2.1, zI_sub]
      refine s_mreadNumber (a := 0) (b := l.length - 1) hb tk1 mt1 rfl hml (by omega) (by omega) (fun he hv => ?_) (fun f hf I2 f2 m2 => ?_)
      · have e2 := he
        rw [e2] at hn hy
        dsimp only at hn hy
        obtain ⟨z1, z2, z3⟩ := eNum_k he
        refine And.intro (fun _ => ?_) (fun c => ?_)
        · refine am_goN vX12_readUse 10 ?_
          refine fun x2 ex2 x3 ex3 => ?_
          have hx2 : x2 = zI (tokA sz bs t.en).val := ex2.trans hv
          generalize (tokA sz bs t.en).val = mm at hx2 z2 z3 hn hy
          refine s_goE hb tx1 tk1 mt1 (Or.inr (Or.inl z1)) mp1 (fun I3 Lg3 f3 w3 tx3 tk3 mt3 mp3 => ?_)
          generalize tokA sz bs (tokA sz bs t.en).en = t4 at *
          have f13 : FrI (V0 mpy) I I3 := f1.tr f3
          have w13 : FrW Lg Lg3 := w1.tr w3
          unfold useT4 at hn hy
          refine s_misWith hb tk3 mt3 (fun hw4 => ?_) (fun hw4 => ?_)
          · rw [if_pos hw4] at hn hy
            refine And.intro (fun c => ?_) (fun _ => ?_)
            · rw [zI_toInt (by omega) (by omega)] at c
              omega
            have hx2t : x2.toInt = mm := by rw [hx2, zI_toInt (by omega) (by omega)]
            have hx2n : x2.toInt.toNat = mm.toNat := by rw [hx2t]
            have hg := mof_get z2 (by omega : mm < l.length)
            have hmk := hl.2 _ _ hg
            obtain ⟨k0, k1, -⟩ := hmk
            refine am_goN vX12_readUse 7 ?_
            refine s_goE hb tx3 tk3 mt3 (Or.inl hw4.1) mp3 (fun I5 Lg5 f5 w5 tx5 tk5 mt5 mp5 => ?_)
            generalize tokA sz bs t4.en = t5 at *
            refine And.intro ⟨by omega, by omega⟩ ?_
            rw [hx2n]
            refine fun x4 ex4 => ?_
            have hx4 : x4.toInt = (mof l mm).1 := by rw [ex4, (tx5.2.2.2 _ _ hg).1, zI_toInt (by omega) (by omega)]
            have k115 : ∀ a b : Int, a = leastN (mof l mm) → b = mostN (mof l mm) → am_J Γ mX12_readUse Q (d + 2) 0 0 115 [some (vR 12 0), some (vI x1), some (vI x2), some (vI x3), some (vI x4)] [vI (zI b), vI (zI a), vR 12 0] I5 Lg5 R (GM gc) := by
              intro a b ha hbb
              have hra : 0 ≤ a ∧ a ≤ 1 := by rw [ha]; unfold leastN; split <;> omega
              have hrb : 1 ≤ b ∧ b ≤ 9999 := by rw [hbb]; unfold mostN; split <;> (try split) <;> (try split) <;> omega
              rw [← ha, ← hbb] at hn hy
              refine am_goN vX12_readUse 2 ?_
              refine s_mreadNumber hb tk5 mt5 rfl rfl (by omega) (by omega) (fun he5 hv5 => ?_) (fun f hf I6 f6 m6 => ?_)
              · rw [he5] at hn hy
                dsimp only at hn hy
                obtain ⟨y1, y2, y3⟩ := eNum_k he5
                refine And.intro (fun _ => ?_) (fun c => ?_)
                · refine am_goN vX12_readUse 5 ?_
                  refine fun x3' ex3' => ?_
                  refine s_goE hb tx5 tk5 mt5 (Or.inr (Or.inl y1)) mp5 (fun I7 Lg7 f7 w7 tx7 tk7 mt7 mp7 => ?_)
                  refine k132 I7 Lg7 x2 x3' _ (tokA sz bs t5.en) mm t5.val (f13.tr (f5.tr f7)) (w13.tr (w5.tr w7)) tx7 tk7 mt7 mp7 hx2 (ex3'.trans hv5) (fun f hf => ?_) (fun hs => ?_)
                  · rw [hf] at hn
                    exact hn f rfl
                  · rw [hs] at hy
                    exact hy _ _ rfl
                · rw [zI_toInt (by omega) (by omega)] at c
                  omega
              · rw [hf] at hn
                refine And.intro (fun c => ?_) (fun _ => ?_)
                · rw [zI_toInt (by omega) (by omega)] at c
                  omega
                refine am_goN vX12_readUse 5 ?_
                exact ⟨Or.inl rfl, hn f rfl I6 Lg5 ((f13.tr f5).trm (mbv_mpv f6)) (w13.tr w5) m6⟩
            have k80 : ∀ a : Int, a = leastN (mof l mm) → am_J Γ mX12_readUse Q (d + 2) 0 0 80 [some (vR 12 0), some (vI x1), some (vI x2), some (vI x3), some (vI x4)] [vI (zI a), vR 12 0] I5 Lg5 R (GM gc) := by
              intro a ha
              refine am_goN vX12_readUse 2 ?_
              refine And.intro (fun c => ?_) (fun c => ?_)
              · rw [hx4] at c
                refine am_goN vX12_readUse 3 ?_
                refine And.intro (fun c2 => ?_) (fun c2 => ?_)
                · rw [hx4, zI_toInt (by omega) (by omega)] at c2
                  refine am_goN vX12_readUse 3 ?_
                  refine And.intro (fun c3 => ?_) (fun c3 => ?_)
                  · rw [hx4, zI_toInt (by omega) (by omega)] at c3
                    refine am_goN vX12_readUse 1 ?_
                    exact k115 a 99 ha (by unfold mostN; rw [if_neg c, if_neg c2, if_neg c3])
                  · rw [hx4, zI_toInt (by omega) (by omega)] at c3
                    refine am_goN vX12_readUse 2 ?_
                    exact k115 a 1 ha (by unfold mostN; rw [if_neg c, if_neg c2, if_pos (by omega)])
                · rw [hx4, zI_toInt (by omega) (by omega)] at c2
                  refine am_goN vX12_readUse 2 ?_
                  exact k115 a 500 ha (by unfold mostN; rw [if_neg c, if_pos (by omega)])
              · rw [hx4] at c
                refine am_goN vX12_readUse 2 ?_
                exact k115 a 9999 ha (by unfold mostN; rw [if_pos (by omega)])
            refine am_goN vX12_readUse 3 ?_
            refine And.intro (fun c => ?_) (fun c => ?_)
            · rw [hx4] at c
              refine am_goN vX12_readUse 2 ?_
              exact k80 0 (by unfold leastN; rw [if_pos (Or.inl c)])
            · rw [hx4] at c
              refine am_goN vX12_readUse 3 ?_
              refine And.intro (fun c2 => ?_) (fun c2 => ?_)
              · rw [hx4, zI_toInt (by omega) (by omega)] at c2
                refine am_goN vX12_readUse 1 ?_
                exact k80 1 (by unfold leastN; rw [if_neg (by omega)])
              · rw [hx4, zI_toInt (by omega) (by omega)] at c2
                refine am_goN vX12_readUse 2 ?_
                exact k80 0 (by unfold leastN; rw [if_pos (by omega)])
          · rw [if_neg hw4] at hn hy
            refine And.intro (fun _ => ?_) (fun c => ?_)
            · refine k132 I3 Lg3 x2 x3 _ t4 mm 1 f13 w13 tx3 tk3 mt3 mp3 hx2 ex3 (fun f hf => ?_) (fun hs => ?_)
              · rw [hf] at hn
                exact hn f rfl
              · rw [hs] at hy
                exact hy _ _ rfl
            · rw [zI_toInt (by omega) (by omega)] at c
              omega
        · rw [zI_toInt (by omega) (by omega)] at c
          omega
      · rw [hf] at hn
        refine And.intro (fun c => ?_) (fun _ => ?_)
        · rw [zI_toInt (by omega) (by omega)] at c
          omega
        refine am_goN vX12_readUse 5 ?_
        exact ⟨Or.inl rfl, hn f rfl I2 Lg1 (f1.trm (mbv_mpv f2)) w1 m2⟩
    · rw [zI_toInt (by omega) (by omega)] at c
      omega
  · have e1 : eWord bs t kUse = some (1, t.2.1) := by unfold eWord; rw [if_neg hw]
    rw [e1] at hn
    refine And.intro (fun c => ?_) (fun _ => ?_)
    · rw [zI_toInt (by omega) (by omega)] at c
      omega
    refine am_goN vX12_readUse 10 ?_
    refine s_bad hm rfl (Or.inl rfl) (fun I1 f1 m1 => ?_)
    exact ⟨Or.inl rfl, hn _ rfl I1 Lg (mbv_mpv f1) FrW.rf m1⟩

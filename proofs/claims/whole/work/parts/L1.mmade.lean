/-! made in the reference, whole. -/
abbrev mdv : List Nat := 47 :: 171 :: 157 :: 73 :: ftv
section MMADE
variable {Γ : AMG} {Q : QQ} {d : Nat} {I : II} {Lg : LJ} {R : RR} {gc : Nat → Nat} {ml : List MC} {es : List EV} {mn : List Int}
theorem LAt.put {I1 I2 : II} {nm e m : Nat} {S : Nat → Nat} {x : Int32} (h : LAt I1 nm S) (hI : I2 = up3 I1 171 0 m x) (hx : x = zI e) : LAt I2 nm (upS S m (nm + e)) := fun k hk => by
  rw [hI]
  by_cases g : k = m
  · rw [g, up3_s, hx, upS_eq, if_neg (by omega)]
    congr 1
    omega
  · rw [up3_j _ g, upS_ne g]
    exact h k hk
set_option maxRecDepth 100000 in
theorem s_mmade (hP : WPre ml es mn) (hm : MMAt I ml) (hp : MPAt I es) (hM : MMenAt I mn)
    (h : ∀ I' : II, FrI (V0 mdv) I I' → I' 73 0 0 = zI 1 → (∀ e x, (mD mn.length (mwt ml es) (mmy ml es mn) es.length 0 (fun m => m))[e]? = some x → I' 157 0 e = zI x) → Q (some (vI (zI (mV mn.length (mwt ml es) (mmy ml es mn) es.length 0 (fun m => m))))) I' Lg R (GM gc)) :
    am_Sp Γ (d + 4) 0 0 mX12_made [vR 12 0] I Lg R (GM gc) Q := by
  have hpk := hP.pk
  have h24 := hP.2.1.1
  have h4 := hP.2.2.2.2.1
  have hl := hP.1
  have hes := hP.2.1
  have hmn := hP.2.2.2.2
  have ixt : ∀ a b : Nat, a ≤ 24 → b < 20475 → (zI ((20475 * a + b : Nat) : Int)).toInt = ((20475 * a + b : Nat) : Int) := fun a b ha hb => zI_toInt (by omega) (by omega)
  -- event after event
  have evs : ∀ (f e : Nat) (S : Nat → Nat) (D : List Int) (x1 x2 x3 : Int32) (l4 l5 : Option AV) (I1 : II), e + f = es.length → stok mn.length e S → (∀ m, m < mn.length → S m < mn.length → S m = m) → D.length = e →
      mD mn.length (mwt ml es) (mmy ml es mn) es.length 0 (fun m => m) = D ++ mD mn.length (mwt ml es) (mmy ml es mn) f e S →
      x1 = zI (mV mn.length (mwt ml es) (mmy ml es mn) es.length 0 (fun m => m)) → x2 = zI (mV mn.length (mwt ml es) (mmy ml es mn) f e S) → x3 = zI e → FrI (V0 mdv) I I1 → WTab I1 ml es mn → TBk I1 ml es mn 0 → LAt I1 mn.length S → (∀ j x, D[j]? = some x → I1 157 0 j = zI x) →
      am_J Γ mX12_made Q (d + 4) 0 0 47 [some (vR 12 0), some (vI x1), some (vI x2), some (vI x3), l4, l5] [] I1 Lg R (GM gc) := by
    intro f
    induction f with
    | zero =>
      intro e S D x1 x2 x3 l4 l5 I1 hef hS hid hD hmD hx1 hx2 hx3 f1 hW hT hLA hdo
      have h3t : x3.toInt = e := by rw [hx3, zI_toInt (by omega) (by omega)]
      refine am_goN vX12_made 4 ?_
      refine And.intro (fun _ => ?_) (fun z => ?_)
      · refine am_goN vX12_made 10 ?_
        refine And.intro (Or.inr rfl) ?_
        refine fun y ey I2 e2 => ?_
        rw [hx1]
        refine h I2 (by rw [e2]; exact f1.up rfl) (by rw [e2, up3_s]; exact ey) (fun j x hj => ?_)
        rw [e2, up3_v _ (by decide)]
        rw [hmD] at hj
        have hj : (D ++ ([] : List Int))[j]? = some x := hj
        rw [List.append_nil] at hj
        exact hdo j x hj
      · rw [h3t, hW.2.1.1, zI_toInt (by omega) (by omega)] at z
        omega
    | succ f ih =>
      intro e S D x1 x2 x3 l4 l5 I1 hef hS hid hD hmD hx1 hx2 hx3 f1 hW hT hLA hdo
      have he : e < es.length := by omega
      have hge := evD_get he
      have hw := hpk.2.1 e
      have hwt : mwt ml es e = ewt ml (evD es e) := mwt_at he
      have h3t : x3.toInt = e := by rw [hx3, zI_toInt (by omega) (by omega)]
      have top := mV_top hpk (e := e) (f + 1) (by omega) S
      have nn := mV_nn (nm := mn.length) (w := mwt ml es) (my := mmy ml es mn) (f + 1) e S
      have topn : ∀ S', mV mn.length (mwt ml es) (mmy ml es mn) f (e + 1) S' ≤ 239976 := fun S' => mV_top hpk (e := e + 1) f (by omega) S'
      have nnn : ∀ S', 0 ≤ mV mn.length (mwt ml es) (mmy ml es mn) f (e + 1) S' := fun S' => mV_nn (nm := mn.length) (w := mwt ml es) (my := mmy ml es mn) f (e + 1) S'
      have h2t : x2.toInt = mV mn.length (mwt ml es) (mmy ml es mn) (f + 1) e S := by rw [hx2, zI_toInt (by omega) (by omega)]
      -- what is behind this event
      have behind : ∀ (S' : Nat → Nat) (x : Int) (x2 : Int32) (l4 l5 : Option AV) (I2 : II), stok mn.length (e + 1) S' → (∀ m, m < mn.length → S' m < mn.length → S' m = m) → mD mn.length (mwt ml es) (mmy ml es mn) (f + 1) e S = x :: mD mn.length (mwt ml es) (mmy ml es mn) f (e + 1) S' →
          x2 = zI (mV mn.length (mwt ml es) (mmy ml es mn) f (e + 1) S') → FrI (V0 mdv) I I2 → WTab I2 ml es mn → TBk I2 ml es mn 0 → LAt I2 mn.length S' → (∀ j x, D[j]? = some x → I2 157 0 j = zI x) → I2 157 0 e = zI x →
          am_J Γ mX12_made Q (d + 4) 0 0 199 [some (vR 12 0), some (vI x1), some (vI x2), some (vI x3), l4, l5] [] I2 Lg R (GM gc) := by
        intro S' x x2 l4 l5 I2 hS' hid' hmD' hx2' f2 hW2 hT2 hL2 hdo2 hde
        refine am_goN vX12_made 5 ?_
        refine fun y3 ey3 => ?_
        refine ih (e + 1) S' (D ++ [x]) x1 x2 y3 l4 l5 I2 (by omega) hS' hid' (by rw [List.length_append, hD]; rfl) (by rw [hmD, hmD', List.append_assoc]; rfl) hx1 hx2' (by rw [ey3, hx3, zI_add]; congr 1) f2 hW2 hT2 hL2 (fun j y hj => ?_)
        by_cases g : j < D.length
        · rw [List.getElem?_append_left g] at hj
          exact hdo2 j y hj
        · rw [List.getElem?_append_right (by omega)] at hj
          by_cases g2 : j = e
          · rw [g2, hD, Nat.sub_self] at hj
            have hj : some x = some y := hj
            rw [g2, hde, Option.some.inj hj]
          · rw [List.getElem?_eq_none (by show 1 ≤ _; omega)] at hj
            cases hj
      -- nobody does it
      have none181 : ∀ (l4 l5 : Option AV) (I2 : II), (∀ k, k < mn.length → mpk mn.length (mwt ml es) (mmy ml es mn) f e S k = false) → FrI (V0 mdv) I I2 → WTab I2 ml es mn → TBk I2 ml es mn 0 → LAt I2 mn.length S → (∀ j x, D[j]? = some x → I2 157 0 j = zI x) → I2 157 0 e = zI (-1) →
          am_J Γ mX12_made Q (d + 4) 0 0 181 [some (vR 12 0), some (vI x1), some (vI x2), some (vI x3), l4, l5] [] I2 Lg R (GM gc) := by
        intro l4 l5 I2 hno f2 hW2 hT2 hL2 hdo2 hde
        have hpn := mpick_no hno
        refine am_goN vX12_made 6 ?_
        refine And.intro ⟨by omega, by omega⟩ ?_
        rw [h3t, Int.toNat_natCast, hde]
        refine And.intro (fun _ => ?_) (fun z => absurd rfl z)
        refine behind S (-1) x2 l4 l5 I2 hS.sk hid ?_ ?_ f2 hW2 hT2 hL2 hdo2 hde
        · show (match mpick mn.length (mwt ml es) (mmy ml es mn) f e S with | some m => (m : Int) :: mD mn.length (mwt ml es) (mmy ml es mn) f (e + 1) (upS S m (mn.length + e)) | none => -1 :: mD mn.length (mwt ml es) (mmy ml es mn) f (e + 1) S) = _
          rw [hpn]
        · rw [hx2, (mpick_none hpn).1]
      -- the man m does it
      have some181 : ∀ (m : Nat) (l4 l5 : Option AV) (I2 : II), m < mn.length → mpick mn.length (mwt ml es) (mmy ml es mn) f e S = some m → FrI (V0 mdv) I I2 → WTab I2 ml es mn → TBk I2 ml es mn 0 → LAt I2 mn.length (upS S m (mn.length + e)) → (∀ j x, D[j]? = some x → I2 157 0 j = zI x) → I2 157 0 e = zI m →
          am_J Γ mX12_made Q (d + 4) 0 0 181 [some (vR 12 0), some (vI x1), some (vI x2), some (vI x3), l4, l5] [] I2 Lg R (GM gc) := by
        intro m l4 l5 I2 hmm hpm f2 hW2 hT2 hL2 hdo2 hde
        obtain ⟨q1, q2, q3, q4⟩ := mpick_some hpm
        refine am_goN vX12_made 6 ?_
        refine And.intro ⟨by omega, by omega⟩ ?_
        rw [h3t, Int.toNat_natCast, hde]
        refine And.intro (fun z => ?_) (fun _ => ?_)
        · rw [zI_toInt (by omega) (by omega), zI_toInt (by omega) (by omega)] at z
          omega
        refine am_goN vX12_made 6 ?_
        refine s_mworth hl hW2.1 hW2.2.1 hes hx3 hge ?_
        refine fun y2 ey2 => ?_
        refine behind (upS S m (mn.length + e)) m y2 l4 l5 I2 hS.up (fun k hk hlt => ?_) ?_ ?_ f2 hW2 hT2 hL2 hdo2 hde
        · by_cases g : k = m
          · rw [g, upS_eq] at hlt
            omega
          · rw [upS_ne g] at hlt ⊢
            exact hid k hk hlt
        · show (match mpick mn.length (mwt ml es) (mmy ml es mn) f e S with | some m => (m : Int) :: mD mn.length (mwt ml es) (mmy ml es mn) f (e + 1) (upS S m (mn.length + e)) | none => -1 :: mD mn.length (mwt ml es) (mmy ml es mn) f (e + 1) S) = _
          rw [hpm]
        · rw [ey2, hx2, zI_sub, q3, hwt]
          congr 1
          omega
      -- man after man
      have men : ∀ (q m : Nat) (x4 : Int32) (l5 : Option AV) (I2 : II), m + q = mn.length → x4 = zI m → (∀ k, k < m → mpk mn.length (mwt ml es) (mmy ml es mn) f e S k = false) → FrI (V0 mdv) I I2 → WTab I2 ml es mn → TBk I2 ml es mn 0 → LAt I2 mn.length S → (∀ j x, D[j]? = some x → I2 157 0 j = zI x) → I2 157 0 e = zI (-1) →
          am_J Γ mX12_made Q (d + 4) 0 0 65 [some (vR 12 0), some (vI x1), some (vI x2), some (vI x3), some (vI x4), l5] [] I2 Lg R (GM gc) := by
        intro q
        induction q with
        | zero =>
          intro m x4 l5 I2 hq hx4 hno f2 hW2 hT2 hL2 hdo2 hde
          have em : m = mn.length := by omega
          have h4t : x4.toInt = mn.length := by rw [hx4, zI_toInt (by omega) (by omega)]; omega
          refine am_goN vX12_made 4 ?_
          refine And.intro (fun _ => ?_) (fun z => ?_)
          · exact none181 _ l5 I2 (fun k hk => hno k (by omega)) f2 hW2 hT2 hL2 hdo2 hde
          · rw [h4t, hW2.2.2.1.1, zI_toInt (by omega) (by omega)] at z
            omega
        | succ q ih2 =>
          intro m x4 l5 I2 hq hx4 hno f2 hW2 hT2 hL2 hdo2 hde
          have hmm : m < mn.length := by omega
          have h4t : x4.toInt = m := by rw [hx4, zI_toInt (by omega) (by omega)]
          have hSm := hS.1 m hmm
          have hv := hL2 m hmm
          -- not he
          have no175 : ∀ (l5 : Option AV) (I2 : II), mpk mn.length (mwt ml es) (mmy ml es mn) f e S m = false → FrI (V0 mdv) I I2 → WTab I2 ml es mn → TBk I2 ml es mn 0 → LAt I2 mn.length S → (∀ j x, D[j]? = some x → I2 157 0 j = zI x) → I2 157 0 e = zI (-1) →
              am_J Γ mX12_made Q (d + 4) 0 0 175 [some (vR 12 0), some (vI x1), some (vI x2), some (vI x3), some (vI x4), l5] [] I2 Lg R (GM gc) := by
            intro l5 I2 hn f2 hW2 hT2 hL2 hdo2 hde
            refine am_goN vX12_made 5 ?_
            refine fun y4 ey4 => ?_
            refine ih2 (m + 1) y4 l5 I2 (by omega) (by rw [ey4, hx4, zI_add]; congr 1) (fun k hk => ?_) f2 hW2 hT2 hL2 hdo2 hde
            by_cases g : k = m
            · rw [g]; exact hn
            · exact hno k (by omega)
          -- he tries
          have try125 : ∀ x5 : Int32, x5 = I2 171 0 m → mmy ml es mn (S m) e = true → am_J Γ mX12_made Q (d + 4) 0 0 125 [some (vR 12 0), some (vI x1), some (vI x2), some (vI x3), some (vI x4), some (vI x5)] [] I2 Lg R (GM gc) := by
            intro x5 hx5 hy
            have hS' : stok mn.length (e + 1) (upS S m (mn.length + e)) := hS.up
            have hx31 : x3 + zI 1 = zI ((e + 1 : Nat) : Int) := by rw [hx3, zI_add]; congr 1
            refine am_goN vX12_made 19 ?_
            refine And.intro ⟨by omega, by omega⟩ ?_
            refine fun y ey I3 e3 => ?_
            rw [h4t, Int.toNat_natCast] at e3
            have f3 : FrI (V0 [171]) I2 I3 := by rw [e3]; exact FrI.rf.up rfl
            have hW3 := hW2.fr f3 (by decide)
            have hT3 : TBk I3 ml es mn 0 := hT2.same (f3 _ _ rfl)
            have hL3 : LAt I3 mn.length (upS S m (mn.length + e)) := hL2.put e3 (by rw [ey, hx3])
            refine s_mworth hl hW3.1 hW3.2.1 hes hx3 hge ?_
            refine s_cellByMen (nm := mn.length) (ne := es.length) (stage := e + 1) (S := upS S m (mn.length + e)) h4 h24 (by omega) hW3.2.2.1.1 hW3.2.1.1 hS' (fun k hk hlt => ?_) hL3 hW3.2.2.2.1 hW3.2.2.2.2 hx31 (fun I4 idle s k f4 hr => ?_)
            · by_cases g : k = m
              · rw [g, upS_eq] at hlt
                omega
              · rw [upS_ne g] at hlt ⊢
                exact hid k hk hlt
            have hc := hr.cell hS' (show e + 1 ≤ 24 by omega) h4
            have hW4 := hW3.fr f4 (by decide)
            have hT4 : TBk I4 ml es mn 0 := hT3.same (f4 _ _ rfl)
            have hL4 : LAt I4 mn.length (upS S m (mn.length + e)) := hL3.fr f4 rfl
            have hw4 := (hT4 (e + 1) (Nat.zero_le _) (by omega)).get hS' hr
            rw [show es.length - (e + 1) = f by omega] at hw4
            have hw4 : I4 168 0 (20475 * (e + 1) + (off mn.length idle + rks s k)) = zI (mV mn.length (mwt ml es) (mmy ml es mn) f (e + 1) (upS S m (mn.length + e))) := hw4
            have ix := ixt (e + 1) (off mn.length idle + rks s k) (by omega) (by omega)
            have fr4 : FrI (V0 mdv) I I4 := (f2.tr (f3.lst (by decide))).tr (f4.lst (by decide))
            have hdo4 : I4 157 = I2 157 := by
              funext i
              rw [f4 157 _ rfl, f3 157 _ rfl]
            have t1 := topn (upS S m (mn.length + e))
            have t2 := nnn (upS S m (mn.length + e))
            refine And.intro ⟨by omega, by omega⟩ ?_
            rw [ix, Int.toNat_natCast, hw4]
            refine And.intro (fun z => ?_) (fun z => ?_)
            · rw [zI_add, ← hwt, zI_toInt (by omega) (by omega), h2t] at z
              refine am_goN vX12_made 5 ?_
              refine And.intro ⟨by omega, by omega⟩ ?_
              refine fun y5 ey5 I5 e5 => ?_
              rw [h4t, Int.toNat_natCast] at e5
              have f5 : FrI (V0 [171]) I4 I5 := by rw [e5]; exact FrI.rf.up rfl
              refine no175 _ I5 ?_ (fr4.tr (f5.lst (by decide))) (hW4.fr f5 (by decide)) (hT4.same (f5 _ _ rfl)) (fun k hk => ?_) (fun j x hj => ?_) ?_
              · unfold mpk
                rw [hy, decide_eq_false z]
                rfl
              · rw [e5]
                by_cases g : k = m
                · rw [g, up3_s, ey5, hx5]
                  exact hv
                · rw [up3_j _ g]
                  have := hL4 k hk
                  rw [upS_ne g] at this
                  exact this
              · rw [f5 157 _ rfl, hdo4]
                exact hdo2 j x hj
              · rw [f5 157 _ rfl, hdo4]
                exact hde
            · rw [zI_add, ← hwt, zI_toInt (by omega) (by omega), h2t] at z
              have hpk1 : mpk mn.length (mwt ml es) (mmy ml es mn) f e S m = true := by
                unfold mpk
                rw [hy, decide_eq_true (by omega)]
                rfl
              have hpm := mpick_is hmm hpk1 hno
              refine am_goN vX12_made 20 ?_
              refine And.intro ⟨by omega, by omega⟩ ?_
              refine fun y5 ey5 I5 e5 => ?_
              refine fun y4 ey4 => ?_
              rw [h3t, Int.toNat_natCast] at e5
              have f5 : FrI (V0 [157]) I4 I5 := by rw [e5]; exact FrI.rf.up rfl
              have hW5 := hW4.fr f5 (by decide)
              have hde5 : I5 157 0 e = zI m := by rw [e5, up3_s, ey5, hx4]
              have fin : ∀ l4 l5 : Option AV, am_J Γ mX12_made Q (d + 4) 0 0 181 [some (vR 12 0), some (vI x1), some (vI x2), some (vI x3), l4, l5] [] I5 Lg R (GM gc) := fun l4 l5 => some181 m l4 l5 I5 hmm hpm (fr4.tr (f5.lst (by decide))) hW5 (hT4.same (f5 _ _ rfl)) (hL4.fr f5 rfl) (fun j x hj => by
                have hjl : j < D.length := (List.getElem?_eq_some_iff.mp hj).1
                rw [e5, up3_j _ (by omega), hdo4]
                exact hdo2 j x hj) hde5
              refine am_goN vX12_made 4 ?_
              refine And.intro (fun _ => fin _ _) (fun _ => ?_)
              refine am_goN vX12_made 6 ?_
              refine And.intro ⟨by omega, by omega⟩ ?_
              rw [h3t, Int.toNat_natCast, hde5]
              refine And.intro (fun _ => fin _ _) (fun z => ?_)
              rw [zI_toInt (by omega) (by omega), zI_toInt (by omega) (by omega)] at z
              omega
          refine am_goN vX12_made 4 ?_
          refine And.intro (fun z => ?_) (fun _ => ?_)
          · rw [h4t, hW2.2.2.1.1, zI_toInt (by omega) (by omega)] at z
            omega
          refine am_goN vX12_made 6 ?_
          refine And.intro ⟨by omega, by omega⟩ ?_
          rw [h3t, Int.toNat_natCast, hde]
          refine And.intro (fun z => absurd rfl z) (fun _ => ?_)
          refine am_goN vX12_made 8 ?_
          refine And.intro ⟨by omega, by omega⟩ ?_
          refine fun x5 ex5 => ?_
          rw [h4t, Int.toNat_natCast] at ex5
          have hnot : mmy ml es mn (S m) e = false → mpk mn.length (mwt ml es) (mmy ml es mn) f e S m = false := fun hy => by
            unfold mpk
            rw [hy]
            rfl
          by_cases g : S m < mn.length
          · -- from his home
            have hSmm := hid m hmm g
            have hx5 : x5 = zI (-1) := by rw [ex5, hv, if_pos g]
            have h5t : x5.toInt = -1 := by rw [hx5, zI_toInt (by omega) (by omega)]
            refine And.intro (fun z => ?_) (fun _ => ?_)
            · rw [h5t, zI_toInt (by omega) (by omega)] at z
              omega
            refine am_goN vX12_made 5 ?_
            refine s_mayBegin hl hW2.1 hW2.2.1 hes hmn hW2.2.2.1 hmm he hx4 hx3 (fun hy => ?_) (fun hy => ?_)
            · refine And.intro (fun _ => ?_) (fun z => ?_)
              · exact try125 x5 ex5 (by rw [hSmm]; exact hy)
              · rw [zI_toInt (by omega) (by omega)] at z
                omega
            · refine And.intro (fun z => absurd rfl z) (fun _ => ?_)
              refine am_goN vX12_made 1 ?_
              exact no175 _ I2 (hnot (by rw [hSmm]; exact hy)) f2 hW2 hT2 hL2 hdo2 hde
          · -- from an event
            obtain ⟨l, hl1⟩ : ∃ l, S m = mn.length + l := ⟨S m - mn.length, by omega⟩
            have hx5 : x5 = zI l := by
              rw [ex5, hv, if_neg g]
              congr 1
              omega
            have h5t : x5.toInt = l := by rw [hx5, zI_toInt (by omega) (by omega)]
            refine And.intro (fun _ => ?_) (fun z => ?_)
            rotate_left
            · rw [h5t, zI_toInt (by omega) (by omega)] at z
              omega
            refine am_goN vX12_made 5 ?_
            refine s_mayFollow (mn := mn) hl hW2.1 hW2.2.1 hes (show l < es.length by omega) he hx5 hx3 (fun hy => ?_) (fun hy => ?_)
            · refine And.intro (fun _ => ?_) (fun z => ?_)
              · exact try125 x5 ex5 (by rw [hl1]; exact hy)
              · rw [zI_toInt (by omega) (by omega)] at z
                omega
            · refine And.intro (fun z => absurd rfl z) (fun _ => ?_)
              refine am_goN vX12_made 1 ?_
              exact no175 _ I2 (hnot (by rw [hl1]; exact hy)) f2 hW2 hT2 hL2 hdo2 hde
      refine am_goN vX12_made 4 ?_
      refine And.intro (fun z => ?_) (fun _ => ?_)
      · rw [h3t, hW.2.1.1, zI_toInt (by omega) (by omega)] at z
        omega
      refine am_goN vX12_made 20 ?_
      refine And.intro ⟨by omega, by omega⟩ ?_
      refine fun y ey I2 e2 => ?_
      refine fun x4 ex4 => ?_
      rw [h3t, Int.toNat_natCast] at e2
      have f2 : FrI (V0 [157]) I1 I2 := by rw [e2]; exact FrI.rf.up rfl
      refine men mn.length 0 x4 _ I2 (by omega) ex4 (fun k hk => absurd hk (Nat.not_lt_zero _)) (f1.tr (f2.lst (by decide))) (hW.fr f2 (by decide)) (hT.same (f2 _ _ rfl)) (hLA.fr f2 rfl) (fun j x hj => ?_) (by rw [e2, up3_s]; exact ey)
      have hjl : j < D.length := (List.getElem?_eq_some_iff.mp hj).1
      rw [e2, up3_j _ (by omega)]
      exact hdo j x hj
  -- nobody stands anywhere
  have sts : ∀ (q m : Nat) (x1 : Int32) (l2 l3 l4 l5 : Option AV) (I1 : II), m + q = mn.length → x1 = zI m → FrI (V0 mdv) I I1 → WTab I1 ml es mn → TBk I1 ml es mn 0 → (∀ k, k < m → I1 171 0 k = zI (-1)) → am_J Γ mX12_made Q (d + 4) 0 0 11 [some (vR 12 0), some (vI x1), l2, l3, l4, l5] [] I1 Lg R (GM gc) := by
    intro q
    induction q with
    | zero =>
      intro m x1 l2 l3 l4 l5 I1 hq hx1 f1 hW hT hla
      have h1t : x1.toInt = mn.length := by rw [hx1, zI_toInt (by omega) (by omega)]; omega
      have hS0 : stok mn.length 0 (fun m => m) := ⟨fun m hm => by show m < mn.length + 0; omega, fun m k _ _ he => he⟩
      have hid0 : ∀ m, m < mn.length → (fun m : Nat => m) m < mn.length → (fun m : Nat => m) m = m := fun _ _ _ => rfl
      have hL0 : LAt I1 mn.length (fun m => m) := fun m hm => by
        show _ = zI (if m < mn.length then -1 else (m : Int) - mn.length)
        rw [if_pos hm]
        exact hla m (by omega)
      refine am_goN vX12_made 4 ?_
      refine And.intro (fun _ => ?_) (fun z => ?_)
      rotate_left
      · rw [h1t, hW.2.2.1.1, zI_toInt (by omega) (by omega)] at z
        omega
      refine am_goN vX12_made 20 ?_
      refine s_cellByMen (nm := mn.length) (ne := es.length) (stage := 0) (S := fun m => m) h4 h24 (Nat.zero_le _) hW.2.2.1.1 hW.2.1.1 hS0 hid0 hL0 hW.2.2.2.1 hW.2.2.2.2 rfl (fun I2 idle s k f2 hr => ?_)
      have hc := hr.cell hS0 (show 0 ≤ 24 by omega) h4
      have hT2 : TBk I2 ml es mn 0 := hT.same (f2 _ _ rfl)
      have hw2 := (hT2 0 (Nat.zero_le _) (Nat.zero_le _)).get hS0 hr
      have hw2 : I2 168 0 (20475 * 0 + (off mn.length idle + rks s k)) = zI (mV mn.length (mwt ml es) (mmy ml es mn) es.length 0 (fun m => m)) := hw2
      have ix := ixt 0 (off mn.length idle + rks s k) (by omega) (by omega)
      refine And.intro ⟨by omega, by omega⟩ ?_
      rw [ix, Int.toNat_natCast, hw2]
      refine fun x1 ex1 x2 ex2 x3 ex3 => ?_
      exact evs es.length 0 (fun m => m) [] x1 x2 x3 l4 l5 I2 (by omega) hS0 hid0 rfl rfl ex1 (by rw [ex2, ex1]) ex3 (f1.tr (f2.lst (by decide))) (hW.fr f2 (by decide)) hT2 (hL0.fr f2 rfl) (fun j x hj => by cases hj)
    | succ q ih =>
      intro m x1 l2 l3 l4 l5 I1 hq hx1 f1 hW hT hla
      have h1t : x1.toInt = m := by rw [hx1, zI_toInt (by omega) (by omega)]
      refine am_goN vX12_made 4 ?_
      refine And.intro (fun z => ?_) (fun _ => ?_)
      · rw [h1t, hW.2.2.1.1, zI_toInt (by omega) (by omega)] at z
        omega
      refine am_goN vX12_made 20 ?_
      refine And.intro ⟨by omega, by omega⟩ ?_
      refine fun y ey I2 e2 => ?_
      refine fun y1 ey1 => ?_
      rw [h1t, Int.toNat_natCast] at e2
      have f2 : FrI (V0 [171]) I1 I2 := by rw [e2]; exact FrI.rf.up rfl
      refine ih (m + 1) y1 l2 l3 l4 l5 I2 (by omega) (by rw [ey1, hx1, zI_add]; congr 1) (f1.tr (f2.lst (by decide))) (hW.fr f2 (by decide)) (hT.same (f2 _ _ rfl)) (fun k hk => ?_)
      rw [e2]
      by_cases g : k = m
      · rw [g, up3_s, ey]
      · rw [up3_j _ g]
        exact hla k (by omega)
  refine am_runN vX12_made 20 _ rfl rfl rfl rfl ?_
  refine fun y ey I1 e1 => ?_
  have f1 : FrI (V0 [47]) I I1 := by rw [e1]; exact FrI.rf.up rfl
  refine s_fillTable hP (hm.fr f1 (by decide)) (hp.fr f1 (by decide)) (hM.fr f1 (by decide)) (fun I2 f2 hW hT => ?_)
  refine fun x1 ex1 => ?_
  exact sts mn.length 0 x1 _ _ _ _ I2 (by omega) ex1 ((f1.lst (by decide)).tr (f2.lst (by decide))) hW hT (fun k hk => absurd hk (Nat.not_lt_zero _))
end MMADE

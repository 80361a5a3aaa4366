/-! made in the class, whole. -/
abbrev mkv : List Nat := [17, 18, 177, 92, 93, 95, 94, 96, 98, 97, 100, 99, 91, 101]
theorem FrI.upl {l : List Nat} {I I' : II} {v i j : Nat} {x : Int32} (h : FrI (V0 l) I I') (hv : v ∈ l) : FrI (V0 l) I (up3 I' v i j x) := h.up (by
  unfold V0
  exact List.elem_iff.mpr hv)
theorem ASok.perm {nm ne : Nat} {w : Nat → Int} {my : Nat → Nat → Bool} {p q ro co : Nat → Int} (h : ASok (nm + ne) (nm + ne) (cst nm ne w my) p q ro co) : ∃ ro' co' : Nat → Nat, (∀ j, j < nm + ne → ro j = ro' j) ∧ (∀ r, r < nm + ne → co r = co' r) ∧ PMok (nm + ne) ro' co' ∧ feas nm ne w my p q ∧ tght nm ne w my p q ro' := by
  obtain ⟨⟨h1, h2⟩, h3, h4, h5, h6⟩ := h
  have hinj : ∀ r, r < nm + ne → ∃ j : Nat, j < nm + ne ∧ co r = j ∧ ro j = r := h2
  have hall : ∀ j, j < nm + ne → ∃ r : Nat, ro j = r ∧ r < nm + ne ∧ co r = j ∧ p r + q j = cst nm ne w my r j := by
    intro j hj
    rcases h1 j hj with ⟨g, _⟩ | g
    · exfalso
      have := pig (nm + ne) (nm + ne + 1) (fun r => if r = nm + ne then j else (co r).toNat) (fun r hr => ?_) (fun r k hr hk e => ?_)
      · omega
      · show (if r = nm + ne then j else (co r).toNat) < nm + ne
        by_cases e : r = nm + ne
        · rw [if_pos e]; exact hj
        · rw [if_neg e]
          obtain ⟨b, b1, b2, _⟩ := h2 r (by omega)
          omega
      · have e : (if r = nm + ne then j else (co r).toNat) = (if k = nm + ne then j else (co k).toNat) := e
        by_cases e1 : r = nm + ne <;> by_cases e2 : k = nm + ne
        · omega
        · rw [if_pos e1, if_neg e2] at e
          obtain ⟨b, b1, b2, b3⟩ := h2 k (by omega)
          have : b = j := by omega
          rw [this, g] at b3
          omega
        · rw [if_neg e1, if_pos e2] at e
          obtain ⟨b, b1, b2, b3⟩ := h2 r (by omega)
          have : b = j := by omega
          rw [this, g] at b3
          omega
        · rw [if_neg e1, if_neg e2] at e
          obtain ⟨b, b1, b2, b3⟩ := h2 r (by omega)
          obtain ⟨a, a1, a2, a3⟩ := h2 k (by omega)
          have : b = a := by omega
          rw [this] at b3
          omega
    · exact g
  refine ⟨fun j => (ro j).toNat, fun r => (co r).toNat, fun j hj => ?_, fun r hr => ?_, ⟨fun j hj => ?_, fun r hr => ?_⟩, fun r j hr hj => h3 r j hr hj, fun j hj => ?_⟩
  · obtain ⟨r, a, _⟩ := hall j hj
    show ro j = ((ro j).toNat : Int)
    omega
  · obtain ⟨j, _, a, _⟩ := h2 r hr
    show co r = ((co r).toNat : Int)
    omega
  · obtain ⟨r, a1, a2, a3, _⟩ := hall j hj
    show (ro j).toNat < nm + ne ∧ (co (ro j).toNat).toNat = j
    rw [a1, Int.toNat_natCast, a3, Int.toNat_natCast]
    exact ⟨a2, rfl⟩
  · obtain ⟨j, a1, a2, a3⟩ := h2 r hr
    show (co r).toNat < nm + ne ∧ (ro (co r).toNat).toNat = r
    rw [a2, Int.toNat_natCast, a3, Int.toNat_natCast]
    exact ⟨a1, rfl⟩
  · obtain ⟨r, a1, a2, a3, a4⟩ := hall j hj
    show p (ro j).toNat + q j = cst nm ne w my (ro j).toNat j
    rw [a1, Int.toNat_natCast]
    exact a4
section CMADE
variable {Γ : AMG} {Q : QQ} {d : Nat} {I : II} {Lg : LJ} {R : RR} {gc : Nat → Nat} {ml : List MC} {es : List EV} {mn : List Int}
set_option maxRecDepth 100000 in
theorem s_makeMost (hl : MCsok ml) (hm : CMAt I ml) (hp : PlanAt I 9 (es, false)) (hes : EVsok ml es) (hes2 : EVsok2 ml es) (hsr : EVsrt es) (hmn : MNsok mn) (hc : CMenAt I mn)
    (h : ∀ I' : II, FrI (V0 mkv) I I' → (∀ e x, (mD mn.length (mwt ml es) (mmy ml es mn) es.length 0 (fun m => m))[e]? = some x → I' 91 0 e = zI x) → (∀ e, es.length ≤ e → I' 91 0 e = I 91 0 e) → Q (some (vI (zI (mV mn.length (mwt ml es) (mmy ml es mn) es.length 0 (fun m => m))))) I' Lg R (GM gc)) :
    am_Sp Γ (d + 5) 0 0 mX3_makeMost [vR 3 0, vR 8 9, vR 5 0] I Lg R (GM gc) Q := by
  have hpk := mpok_of (mn := mn) hes hes2 hsr
  have h24 := hes.1
  have h4 := hmn.1
  have hcb : ∀ r j, -9999 ≤ cst mn.length es.length (mwt ml es) (mmy ml es mn) r j ∧ cst mn.length es.length (mwt ml es) (mmy ml es mn) r j ≤ 1000000 := fun r j => ⟨cst_ge hpk r j, cst_le hpk r j⟩
  have mkin : ∀ v ∈ mkv, v ∈ mkv := fun _ h => h
  -- what is reached behind the tables
  have rest : ∀ (x3 : Int32) (l4 : Option AV) (I1 : II), FrI (V0 mkv) I I1 → I1 18 0 0 = zI (mn.length + es.length : Nat) → I1 17 0 0 = zI es.length → CostAt I1 (mn.length + es.length) (cst mn.length es.length (mwt ml es) (mmy ml es mn)) → I1 91 = I 91 →
      am_J Γ mX3_makeMost Q (d + 5) 0 0 83 [some (vR 3 0), some (vR 8 9), some (vR 5 0), some (vI x3), l4] [] I1 Lg R (GM gc) := by
    intro x3 l4 I1 f1 w1 w2 w3 w4
    refine am_goN vX3_makeMost 8 ?_
    refine s_assignAll (n := mn.length + es.length) (by omega) hcb w1 w3 (fun I2 p q ro co f2 v1 v2 v3 v4 hA => ?_)
    obtain ⟨ro', co', a1, a2, a3, a4, a5⟩ := hA.perm
    have fa2 := f2.lst (l2 := mkv) (by decide)
    refine s_chooseFirst (nm := mn.length) (ne := es.length) h4 hpk (by rw [f2 18 _ rfl]; exact w1) (by rw [f2 17 _ rfl]; exact w2) (by rw [f2 16 _ rfl, f1 16 _ rfl]; exact hc.1) (w3.fr f2 (fun _ => rfl)) v1 (small_of (fun j _ => by have := hA.2.2.1 j; omega)) v2 (small_of (fun j hj => by have := hA.2.2.2.2 j hj; omega)) (v3.congr a1) (v4.congr a2) a3 a4 a5 (fun I3 f3 hd1 hd2 => ?_)
    have fa3 := f3.lst (l2 := mkv) (by decide)
    have fa : FrI (V0 mkv) I I3 := (f1.tr fa2).tr fa3
    refine fun x3 ex3 x4 ex4 => ?_
    have hQ := h I3 fa hd1 (fun e he => by rw [hd2 e he, f2 91 _ rfl, w4])
    have loop : ∀ (m k : Nat) (x3 x4 : Int32) (a : Int), k + m = es.length → x3 = zI a → x4 = zI k → a + dsum (mwt ml es) k ((mD mn.length (mwt ml es) (mmy ml es mn) es.length 0 (fun m => m)).drop k) = mV mn.length (mwt ml es) (mmy ml es mn) es.length 0 (fun m => m) →
        am_J Γ mX3_makeMost Q (d + 5) 0 0 96 [some (vR 3 0), some (vR 8 9), some (vR 5 0), some (vI x3), some (vI x4)] [] I3 Lg R (GM gc) := by
      intro m
      induction m with
      | zero =>
        intro k x3 x4 a hk hx3 hx4 ha
        have h4t : x4.toInt = k := by rw [hx4, zI_toInt (by omega) (by omega)]
        have ev3 : I3 17 0 0 = zI es.length := by rw [f3 17 _ rfl, f2 17 _ rfl]; exact w2
        refine am_goN vX3_makeMost 20 ?_
        refine And.intro (fun _ => ?_) (fun z => ?_)
        · rw [List.drop_eq_nil_of_le (by rw [mD_len]; omega)] at ha
          have ha : a + 0 = _ := ha
          rw [hx3, show a = mV mn.length (mwt ml es) (mmy ml es mn) es.length 0 (fun m => m) by omega]
          exact hQ
        · rw [h4t, ev3, zI_toInt (by omega) (by omega)] at z
          omega
      | succ m ih =>
        intro k x3 x4 a hk hx3 hx4 ha
        have hkn : k < es.length := by omega
        have h4t : x4.toInt = k := by rw [hx4, zI_toInt (by omega) (by omega)]
        have ev3 : I3 17 0 0 = zI es.length := by rw [f3 17 _ rfl, f2 17 _ rfl]; exact w2
        have hlD := mD_len (nm := mn.length) (w := mwt ml es) (my := mmy ml es mn) es.length 0 (fun m => m)
        obtain ⟨x, hx⟩ : ∃ x, (mD mn.length (mwt ml es) (mmy ml es mn) es.length 0 (fun m => m))[k]? = some x := ⟨_, List.getElem?_eq_getElem (by omega)⟩
        have hxr := mD_rng _ _ _ x (List.mem_of_getElem? hx)
        have hdk := hd1 k x hx
        rw [List.drop_eq_getElem_cons (by omega : k < _)] at ha
        have ha : a + ((if (mD mn.length (mwt ml es) (mmy ml es mn) es.length 0 (fun m => m))[k] = -1 then 0 else mwt ml es k) + dsum (mwt ml es) (k + 1) ((mD mn.length (mwt ml es) (mmy ml es mn) es.length 0 (fun m => m)).drop (k + 1))) = mV mn.length (mwt ml es) (mmy ml es mn) es.length 0 (fun m => m) := ha
        rw [(List.getElem?_eq_some_iff.mp hx).2] at ha
        have next : ∀ (x3 : Int32) (a : Int), x3 = zI a → a + dsum (mwt ml es) (k + 1) ((mD mn.length (mwt ml es) (mmy ml es mn) es.length 0 (fun m => m)).drop (k + 1)) = mV mn.length (mwt ml es) (mmy ml es mn) es.length 0 (fun m => m) → am_J Γ mX3_makeMost Q (d + 5) 0 0 135 [some (vR 3 0), some (vR 8 9), some (vR 5 0), some (vI x3), some (vI x4)] [] I3 Lg R (GM gc) := by
          intro x3 a hx3 ha
          refine am_goN vX3_makeMost 5 ?_
          refine fun y ey => ?_
          exact ih (k + 1) x3 y a (by omega) hx3 (by rw [ey, hx4, zI_add]; congr 1) ha
        refine am_goN vX3_makeMost 4 ?_
        refine And.intro (fun z => ?_) (fun _ => ?_)
        · rw [h4t, ev3, zI_toInt (by omega) (by omega)] at z
          omega
        refine am_goN vX3_makeMost 6 ?_
        refine And.intro ⟨by omega, by omega⟩ ?_
        refine And.intro (fun z => ?_) (fun z => ?_)
        · rw [h4t, Int.toNat_natCast, hdk, zI_toInt (by omega) (by omega), zI_toInt (by omega) (by omega)] at z
          rw [if_pos z] at ha
          exact next x3 a hx3 (by omega)
        · rw [h4t, Int.toNat_natCast, hdk, zI_toInt (by omega) (by omega), zI_toInt (by omega) (by omega)] at z
          rw [if_neg z] at ha
          have he := evD_get hkn
          obtain ⟨u1, u2, u3, u4, u5, u6⟩ := hes.2 _ _ he
          have hme := mof_get u3 u4
          have hmk := hl.2 _ _ hme
          have hp3 : PlanAt I3 9 (es, false) := hp.fr fa (by decide)
          have hm3 : CMAt I3 ml := hm.fr fa (by decide)
          refine am_goN vX3_makeMost 11 ?_
          refine s_machineOfE hp3 hx4 he ?_
          refine s_numberOfE hp3 hx4 he ?_
          refine s_cm_strength hl.1 hm3 (show zI (evD es k).2.1 = zI (((evD es k).2.1.toNat : Nat) : Int) by rw [show (((evD es k).2.1.toNat : Nat) : Int) = (evD es k).2.1 by omega]) rfl hme hmk ?_
          refine fun y3 ey3 => ?_
          refine next y3 (a + mwt ml es k) ?_ (by omega)
          rw [ey3, hx3, zI_add]
          congr 2
          unfold mwt
          rw [if_pos hkn]
          rfl
    exact loop es.length 0 x3 x4 0 (by omega) ex3 ex4 (by rw [List.drop_zero, mD_sum]; omega)
  -- row after row
  have rows : ∀ (m r : Nat) (x3 : Int32) (l4 : Option AV) (I1 : II), r + m = mn.length + es.length → x3 = zI r → FrI (V0 mkv) I I1 → I1 18 0 0 = zI (mn.length + es.length : Nat) → I1 17 0 0 = zI es.length → (∀ a j, a < r → j < mn.length + es.length → I1 177 a j = zI (cst mn.length es.length (mwt ml es) (mmy ml es mn) a j)) → I1 91 = I 91 →
      am_J Γ mX3_makeMost Q (d + 5) 0 0 33 [some (vR 3 0), some (vR 8 9), some (vR 5 0), some (vI x3), l4] [] I1 Lg R (GM gc) := by
    intro m
    induction m with
    | zero =>
      intro r x3 l4 I1 hr hx3 f1 w1 w2 w3 w4
      have h3t : x3.toInt = r := by rw [hx3, zI_toInt (by omega) (by omega)]
      refine am_goN vX3_makeMost 4 ?_
      refine And.intro (fun _ => ?_) (fun z => ?_)
      · exact rest x3 l4 I1 f1 w1 w2 (fun a j ha hj => w3 a j (by omega) hj) w4
      · rw [h3t, w1, zI_toInt (by omega) (by omega)] at z
        omega
    | succ m ih =>
      intro r x3 l4 I1 hr hx3 f1 w1 w2 w3 w4
      have h3t : x3.toInt = r := by rw [hx3, zI_toInt (by omega) (by omega)]
      have cols : ∀ (m2 k : Nat) (x4 : Int32) (I1 : II), k + m2 = mn.length + es.length → x4 = zI k → FrI (V0 mkv) I I1 → I1 18 0 0 = zI (mn.length + es.length : Nat) → I1 17 0 0 = zI es.length → (∀ a j, (a < r ∨ a = r ∧ j < k) → j < mn.length + es.length → I1 177 a j = zI (cst mn.length es.length (mwt ml es) (mmy ml es mn) a j)) → I1 91 = I 91 →
          am_J Γ mX3_makeMost Q (d + 5) 0 0 44 [some (vR 3 0), some (vR 8 9), some (vR 5 0), some (vI x3), some (vI x4)] [] I1 Lg R (GM gc) := by
        intro m2
        induction m2 with
        | zero =>
          intro k x4 I1 hk hx4 f1 w1 w2 w3 w4
          have h4t : x4.toInt = k := by rw [hx4, zI_toInt (by omega) (by omega)]
          refine am_goN vX3_makeMost 4 ?_
          refine And.intro (fun _ => ?_) (fun z => ?_)
          · refine am_goN vX3_makeMost 5 ?_
            refine fun y ey => ?_
            exact ih (r + 1) y _ I1 (by omega) (by rw [ey, hx3, zI_add]; congr 1) f1 w1 w2 (fun a j ha hj => w3 a j (by omega) hj) w4
          · rw [h4t, w1, zI_toInt (by omega) (by omega)] at z
            omega
        | succ m2 ih2 =>
          intro k x4 I1 hk hx4 f1 w1 w2 w3 w4
          have h4t : x4.toInt = k := by rw [hx4, zI_toInt (by omega) (by omega)]
          refine am_goN vX3_makeMost 4 ?_
          refine And.intro (fun z => ?_) (fun _ => ?_)
          · rw [h4t, w1, zI_toInt (by omega) (by omega)] at z
            omega
          refine am_goN vX3_makeMost 30 ?_
          refine And.intro ⟨by omega, by omega⟩ ?_
          refine s_costOf (mn := mn) hl (hm.fr f1 (by decide)) (hp.fr f1 (by decide)) hes hmn (hc.fr f1 (by decide)) w2 (by omega) (by omega) hx3 hx4 ?_
          refine And.intro ⟨by omega, by omega⟩ ?_
          refine fun y ey I2 e2 => ?_
          refine fun y4 ey4 => ?_
          rw [h3t, h4t, Int.toNat_natCast, Int.toNat_natCast] at e2
          refine ih2 (k + 1) y4 I2 (by omega) (by rw [ey4, hx4, zI_add]; congr 1) (by rw [e2]; exact f1.up rfl) (by rw [e2, up3_v _ (by decide)]; exact w1) (by rw [e2, up3_v _ (by decide)]; exact w2) (fun a j ha hj => ?_) (by rw [e2, up3_v _ (by decide)]; exact w4)
          rw [e2]
          by_cases g : a = r
          · by_cases g2 : j = k
            · rw [g, g2, up3_s]
              exact ey
            · rw [up3_j _ g2]
              exact w3 a j (by omega) hj
          · rw [up3_i _ g]
            exact w3 a j (by omega) hj
      refine am_goN vX3_makeMost 4 ?_
      refine And.intro (fun z => ?_) (fun _ => ?_)
      · rw [h3t, w1, zI_toInt (by omega) (by omega)] at z
        omega
      refine am_goN vX3_makeMost 5 ?_
      refine fun y4 ey4 => ?_
      exact cols (mn.length + es.length) 0 y4 I1 (by omega) ey4 f1 w1 w2 (fun a j ha hj => w3 a j (by omega) hj) w4
  have hps : I 33 9 0 = zI es.length := hp.1
  refine am_runN vX3_makeMost 40 _ rfl rfl rfl rfl ?_
  refine fun y1 ey1 I1 e1 => ?_
  refine fun y2 ey2 I2 e2 => ?_
  refine fun x3 ex3 => ?_
  have ey1 : y1 = zI es.length := by
    rw [ey1, hps, am_min_z (by omega) (by omega) (by omega) (by omega)]
    congr 1
    omega
  have f1 : FrI (V0 [17]) I I1 := by rw [e1]; exact FrI.rf.up rfl
  have f2 : FrI (V0 [18]) I1 I2 := by rw [e2]; exact FrI.rf.up rfl
  have v1 : I1 17 0 0 = zI es.length := by rw [e1, up3_s]; exact ey1
  have ey2 : y2 = zI (mn.length + es.length : Nat) := by
    rw [ey2, f1 16 _ rfl, hc.1, v1, zI_add, am_min_z (by omega) (by omega) (by omega) (by omega)]
    congr 1
    omega
  exact rows (mn.length + es.length) 0 x3 _ I2 (by omega) ex3 ((f1.lst (by decide)).tr (f2.lst (by decide))) (by rw [e2, up3_s]; exact ey2) (by rw [f2 17 _ rfl]; exact v1) (fun a j ha _ => absurd ha (Nat.not_lt_zero _)) (by rw [e2, up3_v _ (by decide), e1, up3_v _ (by decide)])
set_option maxRecDepth 100000 in
theorem s_made (hl : MCsok ml) (hm : CMAt I ml) (hp : PlanAt I 9 (es, false)) (hes : EVsok ml es) (hes2 : EVsok2 ml es) (hsr : EVsrt es) (hmn : MNsok mn) (hc : CMenAt I mn)
    (h : ∀ I' : II, FrI (V0 mkv) I I' → (∀ e x, (mD mn.length (mwt ml es) (mmy ml es mn) es.length 0 (fun m => m))[e]? = some x → I' 91 0 e = zI x) → (∀ e, es.length ≤ e → I' 91 0 e = I 91 0 e) → Q (some (vI (zI (mV mn.length (mwt ml es) (mmy ml es mn) es.length 0 (fun m => m))))) I' Lg R (GM gc)) :
    am_Sp Γ (d + 6) 0 0 mX11_made [vR 11 0] I Lg R (GM gc) Q := by
  refine am_runN vX11_made 10 _ rfl rfl rfl rfl ?_
  refine s_makeMost hl hm hp hes hes2 hsr hmn hc (fun I' f d1 d2 => ?_)
  exact h I' f d1 d2
end CMADE

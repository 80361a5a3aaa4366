/-! made in the class: who does which. -/
section MPK
variable {nm ne : Nat} {w : Nat → Int} {my : Nat → Nat → Bool}
theorem mpick_is {f e m : Nat} {S : Nat → Nat} (hm : m < nm) (h : mpk nm w my f e S m = true) (hl : ∀ k, k < m → mpk nm w my f e S k = false) : mpick nm w my f e S = some m := by
  cases hc : mpick nm w my f e S with
  | none =>
    have := (mpick_none hc).2 m hm
    rw [h] at this
    cases this
  | some k =>
    obtain ⟨h1, h2, h3, h4⟩ := mpick_some hc
    have hk : mpk nm w my f e S k = true := by
      unfold mpk
      rw [h2, h3]
      simp
    rcases Nat.lt_trichotomy k m with g | g | g
    · rw [hl k g] at hk; cases hk
    · rw [g]
    · rw [h4 m g] at h; cases h
theorem mpick_no {f e : Nat} {S : Nat → Nat} (hl : ∀ k, k < nm → mpk nm w my f e S k = false) : mpick nm w my f e S = none := by
  cases hc : mpick nm w my f e S with
  | none => rfl
  | some k =>
    obtain ⟨h1, h2, h3, h4⟩ := mpick_some hc
    have hk : mpk nm w my f e S k = true := by
      unfold mpk
      rw [h2, h3]
      simp
    rw [hl k h1] at hk
    cases hk
theorem mD_some {f e m : Nat} {S : Nat → Nat} (h : mpick nm w my f e S = some m) : mD nm w my (f + 1) e S = (m : Int) :: mD nm w my f (e + 1) (upS S m (nm + e)) := by
  show (match mpick nm w my f e S with | some m => (m : Int) :: mD nm w my f (e + 1) (upS S m (nm + e)) | none => -1 :: mD nm w my f (e + 1) S) = _
  rw [h]
theorem mD_none {f e : Nat} {S : Nat → Nat} (h : mpick nm w my f e S = none) : mD nm w my (f + 1) e S = -1 :: mD nm w my f (e + 1) S := by
  show (match mpick nm w my f e S with | some m => (m : Int) :: mD nm w my f (e + 1) (upS S m (nm + e)) | none => -1 :: mD nm w my f (e + 1) S) = _
  rw [h]
theorem mD_rng : ∀ (f e : Nat) (S : Nat → Nat) (x : Int), x ∈ mD nm w my f e S → -1 ≤ x ∧ x < nm
  | 0, _, _, x, h => by cases h
  | f + 1, e, S, x, h => by
    cases hc : mpick nm w my f e S with
    | none =>
      rw [mD_none hc] at h
      rcases List.mem_cons.mp h with g | g
      · omega
      · exact mD_rng f _ _ x g
    | some m =>
      rw [mD_some hc] at h
      have := (mpick_some hc).1
      rcases List.mem_cons.mp h with g | g
      · omega
      · exact mD_rng f _ _ x g
/-- the worth of what is done -/
def dsum (w : Nat → Int) : Nat → List Int → Int
  | _, [] => 0
  | e, x :: l => (if x = -1 then 0 else w e) + dsum w (e + 1) l
theorem mD_sum : ∀ (f e : Nat) (S : Nat → Nat), dsum w e (mD nm w my f e S) = mV nm w my f e S
  | 0, _, _ => rfl
  | f + 1, e, S => by
    cases hc : mpick nm w my f e S with
    | none =>
      rw [mD_none hc]
      show (if (-1 : Int) = -1 then 0 else w e) + dsum w (e + 1) (mD nm w my f (e + 1) S) = _
      rw [if_pos rfl, mD_sum f, (mpick_none hc).1]
      omega
    | some m =>
      rw [mD_some hc]
      show (if (m : Int) = -1 then 0 else w e) + dsum w (e + 1) (mD nm w my f (e + 1) (upS S m (nm + e))) = _
      rw [if_neg (by omega), mD_sum f, (mpick_some hc).2.2.1]
theorem cst_le (hp : mpok nm ne w my) (r j : Nat) : cst nm ne w my r j ≤ 1000000 := by
  have := hp.2.1 j
  unfold cst
  split
  · omega
  · split <;> omega
theorem stok_id : stok nm 0 (fun m => m) := ⟨fun m hm => by show m < nm + 0; omega, fun m k _ _ h => h⟩
end MPK
abbrev chv : List Nat := [98, 97, 100, 99, 95, 94, 91, 101]
def stB (e : Nat) : Nat → Int := fun j => if j < e then 1 else 0
theorem stB_1 {e j : Nat} (h : j < e) : stB e j = 1 := if_pos h
theorem stB_0 {e j : Nat} (h : e ≤ j) : stB e j = 0 := if_neg (by omega)
section CCHOOSE
variable {Γ : AMG} {Q : QQ} {d : Nat} {I : II} {Lg : LJ} {R : RR} {gc : Nat → Nat} {nm ne : Nat} {w : Nat → Int} {my : Nat → Nat → Bool} {p q : Nat → Int}
set_option maxRecDepth 100000 in
theorem s_chooseFirst {ro co : Nat → Nat} (hnm : nm ≤ 4) (hpk : mpok nm ne w my) (hsd : I 18 0 0 = zI (nm + ne : Nat)) (hev : I 17 0 0 = zI ne) (hsz : I 16 0 0 = zI nm) (hc : CostAt I (nm + ne) (cst nm ne w my)) (hp : RA I 92 (nm + ne) p) (hpb : smallF (nm + ne) p) (hq : RA I 93 (nm + ne) q) (hqb : smallF (nm + ne) q)
    (hro : RA I 95 (nm + ne) (fun j => (ro j : Int))) (hco : RA I 94 (nm + ne) (fun r => (co r : Int))) (hm : PMok (nm + ne) ro co) (hf : feas nm ne w my p q) (ht : tght nm ne w my p q ro)
    (h : ∀ I' : II, FrI (V0 chv) I I' → (∀ e x, (mD nm w my ne 0 (fun m => m))[e]? = some x → I' 91 0 e = zI x) → (∀ e, ne ≤ e → I' 91 0 e = I 91 0 e) → Q none I' Lg R (GM gc)) :
    am_Sp Γ (d + 4) 0 0 mX3_chooseFirst [vR 3 0] I Lg R (GM gc) Q := by
  have hne := hpk.1
  have hcb : ∀ r j, -9999 ≤ cst nm ne w my r j ∧ cst nm ne w my r j ≤ 1000000 := fun r j => ⟨cst_ge hpk r j, cst_le hpk r j⟩
  -- the events one after another
  have evs : ∀ (f e : Nat) (x1 : Int32) (l2 : Option AV) (I1 : II) (S ro co : Nat → Nat) (pre : List Int), e + f = ne → x1 = zI e → FrI (V0 chv) I I1 → RA I1 99 (nm + ne) (stB e) → RA I1 95 (nm + ne) (fun j => (ro j : Int)) → RA I1 94 (nm + ne) (fun r => (co r : Int)) → (∀ m, m < nm → I1 101 0 m = zI (S m)) →
      PMok (nm + ne) ro co → tght nm ne w my p q ro → mpre nm ne e S ro → pre.length = e → pre ++ mD nm w my f e S = mD nm w my ne 0 (fun m => m) → (∀ k x, pre[k]? = some x → I1 91 0 k = zI x) → (∀ k, ne ≤ k → I1 91 0 k = I 91 0 k) →
      am_J Γ mX3_chooseFirst Q (d + 4) 0 0 30 [some (vR 3 0), some (vI x1), l2] [] I1 Lg R (GM gc) := by
    intro f
    induction f with
    | zero =>
      intro e x1 l2 I1 S ro co pre he hx1 f1 w1 w2 w3 w4 hm1 ht1 hpre hl hD hdo hdn
      have h1t : x1.toInt = e := by rw [hx1, zI_toInt (by omega) (by omega)]
      have hD : pre ++ [] = mD nm w my ne 0 (fun m => m) := hD
      rw [List.append_nil] at hD
      refine am_goN vX3_chooseFirst 20 ?_
      refine And.intro (fun _ => ?_) (fun z => ?_)
      · exact h I1 f1 (fun k x hk => hdo k x (by rw [hD]; exact hk)) hdn
      · rw [h1t, f1 17 _ rfl, hev, zI_toInt (by omega) (by omega)] at z
        omega
    | succ f ih =>
      intro e x1 l2 I1 S ro co pre he hx1 f1 w1 w2 w3 w4 hm1 ht1 hpre hl hD hdo hdn
      have h1t : x1.toInt = e := by rw [hx1, zI_toInt (by omega) (by omega)]
      have hS := hpre.1
      -- the event is settled
      have next : ∀ (x2 : Int32) (I2 : II) (S2 ro2 co2 : Nat → Nat) (st2 : Nat → Int) (v : Int), FrI (V0 chv) I I2 → RA I2 99 (nm + ne) st2 → (∀ j, j ≠ e → st2 j = stB e j) → RA I2 95 (nm + ne) (fun j => (ro2 j : Int)) → RA I2 94 (nm + ne) (fun r => (co2 r : Int)) → (∀ m, m < nm → I2 101 0 m = zI (S2 m)) →
          PMok (nm + ne) ro2 co2 → tght nm ne w my p q ro2 → mpre nm ne (e + 1) S2 ro2 → mD nm w my (f + 1) e S = v :: mD nm w my f (e + 1) S2 → I2 91 0 e = zI v → (∀ k, k ≠ e → I2 91 0 k = I1 91 0 k) →
          am_J Γ mX3_chooseFirst Q (d + 4) 0 0 109 [some (vR 3 0), some (vI x1), some (vI x2)] [] I2 Lg R (GM gc) := by
        intro x2 I2 S2 ro2 co2 st2 v f2 v1 v1b v2 v3 v4 hm2 ht2 hpre2 hDe hdv hdo2
        refine am_goN vX3_chooseFirst 20 ?_
        refine And.intro ⟨by omega, by omega⟩ ?_
        refine fun y ey I3 e3 => ?_
        refine fun y1 ey1 => ?_
        rw [h1t, Int.toNat_natCast] at e3
        have f3 : FrI (V0 [99]) I2 I3 := by rw [e3]; exact FrI.rf.up rfl
        refine ih (e + 1) y1 _ I3 S2 ro2 co2 (pre ++ [v]) (by omega) (by rw [ey1, hx1, zI_add]; congr 1) (f2.tr (f3.lst (by decide))) ((v1.up e3 (z := 1) ey).congr (fun j _ => ?_)) (v2.fr f3 rfl) (v3.fr f3 rfl) (fun m hm => by rw [f3 101 _ rfl]; exact v4 m hm) hm2 ht2 hpre2 (by rw [List.length_append, hl]; rfl) (by rw [List.append_assoc, ← hD, hDe]; rfl) (fun k x hk => ?_) (fun k hk => ?_)
        · show (if j = e then 1 else st2 j) = stB (e + 1) j
          by_cases g : j = e
          · rw [if_pos g, stB_1 (by omega)]
          · rw [if_neg g, v1b j g]
            unfold stB
            by_cases g2 : j < e
            · rw [if_pos g2, if_pos (by omega)]
            · rw [if_neg g2, if_neg (by omega)]
        · rw [f3 91 _ rfl]
          by_cases g : k < e
          · rw [hdo2 k (by omega)]
            rw [List.getElem?_append_left (by omega)] at hk
            exact hdo k x hk
          · rw [List.getElem?_append_right (by omega)] at hk
            have g2 : k = e := by
              apply Classical.byContradiction
              intro g3
              rw [List.getElem?_eq_none (by simp; omega)] at hk
              cases hk
            rw [g2, hl, Nat.sub_self] at hk
            have hk : some v = some x := hk
            rw [g2, hdv, Option.some.inj hk]
        · rw [f3 91 _ rfl, hdo2 k (by omega)]
          exact hdn k hk
      -- the men one after another
      have men : ∀ (l m : Nat) (x2 : Int32) (I2 : II), m + l = nm → x2 = zI m → FrI (V0 chv) I I2 → RA I2 99 (nm + ne) (stB e) → RA I2 95 (nm + ne) (fun j => (ro j : Int)) → RA I2 94 (nm + ne) (fun r => (co r : Int)) → (∀ m, m < nm → I2 101 0 m = zI (S m)) → I2 91 0 e = zI (-1) → (∀ k, k ≠ e → I2 91 0 k = I1 91 0 k) → (∀ k, k < m → mpk nm w my f e S k = false) →
          am_J Γ mX3_chooseFirst Q (d + 4) 0 0 47 [some (vR 3 0), some (vI x1), some (vI x2)] [] I2 Lg R (GM gc) := by
        intro l
        induction l with
        | zero =>
          intro m x2 I2 hml hx2 f2 v1 v2 v3 v4 hd1 hd2 hno
          have em : m = nm := by omega
          subst em
          have h2t : x2.toInt = m := by rw [hx2, zI_toInt (by omega) (by omega)]
          refine am_goN vX3_chooseFirst 4 ?_
          refine And.intro (fun _ => ?_) (fun z => ?_)
          · have hr : ro e = m + e := m_k3 hpk hf ht1 hm1 he hpre (fun k hk g => by
              have := m_k1 hpk hf ht1 hm1 he hpre hk g
              rw [hno k hk] at this
              cases this)
            exact next x2 I2 S ro co (stB e) (-1) f2 v1 (fun _ _ => rfl) v2 v3 v4 hm1 ht1 (hpre.none hm1 (by omega) hr) (mD_none (mpick_no hno)) hd1 hd2
          · rw [h2t, f2 16 _ rfl, hsz, zI_toInt (by omega) (by omega)] at z
            omega
        | succ l ihm =>
          intro m x2 I2 hml hx2 f2 v1 v2 v3 v4 hd1 hd2 hno
          have hmn : m < nm := by omega
          have h2t : x2.toInt = m := by rw [hx2, zI_toInt (by omega) (by omega)]
          have hSm := hS.1 m hmn
          refine am_goN vX3_chooseFirst 4 ?_
          refine And.intro (fun z => ?_) (fun _ => ?_)
          · rw [h2t, f2 16 _ rfl, hsz, zI_toInt (by omega) (by omega)] at z
            omega
          refine am_goN vX3_chooseFirst 3 ?_
          refine And.intro (fun z => ?_) (fun _ => ?_)
          · rw [h2t, zI_toInt (by omega) (by omega)] at z
            omega
          refine am_goN vX3_chooseFirst 6 ?_
          refine And.intro ⟨by omega, by omega⟩ ?_
          refine And.intro (fun z => ?_) (fun _ => ?_)
          · rw [h1t, Int.toNat_natCast, hd1] at z
            exact absurd rfl z
          refine am_goN vX3_chooseFirst 8 ?_
          refine And.intro ⟨by omega, by omega⟩ ?_
          have hrow : I2 101 0 x2.toInt.toNat = zI (S m) := by rw [h2t, Int.toNat_natCast]; exact v4 m hmn
          refine s_canDoNext (by omega) (by rw [f2 18 _ rfl]; exact hsd) (by omega) (by omega) hrow hx1 (hc.fr f2 (fun _ => rfl)) hcb (hp.fr f2 rfl) hpb (hq.fr f2 rfl) hqb v1 (fun j => by unfold stB; split; exact Or.inr rfl; exact Or.inl rfl) (stB_0 (Nat.le_refl _)) (fun _ => ?_) v2 v3 hm1 ht1 (fun I3 ro' co' st' f3 g1 g2 g3 g4 g5 g6 g7 g8 => ?_) (fun I3 f3 g1 g2 g3 g4 => ?_)
          · refine stB_0 ?_
            apply Classical.byContradiction
            intro g
            have hc9 := hm1.2 (S m) (by omega)
            exact hpre.2.2 (co (S m)) (by omega) (Or.inl ⟨m, hmn, hc9.2⟩)
          · refine And.intro (fun z3 => ?_) (fun _ => ?_)
            · rw [zI_toInt (by omega) (by omega)] at z3
              omega
            have hag : ∀ j, j < e → ro' j = ro j := fun j hj => g7 j (by omega) (by rw [stB_1 hj]; omega)
            have hav := m_avl hm1 g5 hpre hag (by omega)
            have hpre2 := hpre.cons hav hag
            have hmk := m_k1 hpk hf g6 g5 he hpre2 hmn g8
            refine am_goN vX3_chooseFirst 20 ?_
            refine And.intro ⟨by omega, by omega⟩ ?_
            refine fun y4 ey4 I4 e4 => ?_
            refine And.intro ⟨by omega, by omega⟩ ?_
            refine fun y5 ey5 I5 e5 => ?_
            refine fun x2' ex2 => ?_
            rw [h1t, Int.toNat_natCast] at e4
            rw [h2t, Int.toNat_natCast] at e5
            have f4 : FrI (V0 [91]) I3 I4 := by rw [e4]; exact FrI.rf.up rfl
            have f5 : FrI (V0 [101]) I4 I5 := by rw [e5]; exact FrI.rf.up rfl
            have hde : I5 91 0 e = zI m := by rw [f5 91 _ rfl, e4, up3_s, ey4, hx2]
            have h2t' : x2'.toInt = m + 1 := by rw [ex2, hx2, zI_add, zI_toInt (by omega) (by omega)]
            have fa : FrI (V0 chv) I I5 := ((f2.tr (f3.lst (by decide))).tr (f4.lst (by decide))).tr (f5.lst (by decide))
            have fin := next x2' I5 (upS S m (nm + e)) ro' co' st' m fa ((g1.fr f4 rfl).fr f5 rfl) g2 ((g3.fr f4 rfl).fr f5 rfl) ((g4.fr f4 rfl).fr f5 rfl) (fun k hk => by
              by_cases g : k = m
              · rw [g, e5, up3_s, upS_eq, ey5, f4 16 _ rfl, f3 16 _ rfl, f2 16 _ rfl, hsz, hx1, zI_add]
                rfl
              · rw [e5, up3_j _ g, upS_ne g, f4 101 _ rfl, f3 101 _ rfl]
                exact v4 k hk) g5 g6 (hpre2.man g5 (by omega) hmn g8) (mD_some (mpick_is hmn hmk hno)) hde (fun k hk => by
              rw [f5 91 _ rfl, e4, up3_j _ hk, f3 91 _ rfl]
              exact hd2 k hk)
            refine am_goN vX3_chooseFirst 4 ?_
            refine And.intro (fun _ => fin) (fun _ => ?_)
            refine am_goN vX3_chooseFirst 3 ?_
            refine And.intro (fun _ => fin) (fun _ => ?_)
            refine am_goN vX3_chooseFirst 6 ?_
            refine And.intro ⟨by omega, by omega⟩ ?_
            refine And.intro (fun _ => fin) (fun z => ?_)
            rw [h1t, Int.toNat_natCast, hde, zI_toInt (by omega) (by omega), zI_toInt (by omega) (by omega)] at z
            omega
          · refine And.intro (fun _ => ?_) (fun z3 => absurd rfl z3)
            refine am_goN vX3_chooseFirst 5 ?_
            refine fun x2' ex2 => ?_
            refine ihm (m + 1) x2' I3 (by omega) (by rw [ex2, hx2, zI_add]; congr 1) (f2.tr (f3.lst (by decide))) g1 g2 g3 (fun k hk => by rw [f3 101 _ rfl]; exact v4 k hk) (by rw [f3 91 _ rfl]; exact hd1) (fun k hk => by rw [f3 91 _ rfl]; exact hd2 k hk) (fun k hk => ?_)
            by_cases g : k = m
            · rw [g]
              cases hmk : mpk nm w my f e S m with
              | false => rfl
              | true =>
                obtain ⟨τ, t1, t2, t3, t4, t5⟩ := m_k2 hpk hf ht1 hm1 he hpre hmn hmk
                exact absurd t4 (g4 τ t1 t2 (fun j hj hs => t3 j (by
                  apply Classical.byContradiction
                  intro g
                  exact hs (stB_0 (by omega)))) t5)
            · exact hno k (by omega)
      refine am_goN vX3_chooseFirst 4 ?_
      refine And.intro (fun z => ?_) (fun _ => ?_)
      · rw [h1t, f1 17 _ rfl, hev, zI_toInt (by omega) (by omega)] at z
        omega
      refine am_goN vX3_chooseFirst 7 ?_
      refine And.intro ⟨by omega, by omega⟩ ?_
      refine fun y ey I2 e2 => ?_
      refine fun x2 ex2 => ?_
      rw [h1t, Int.toNat_natCast] at e2
      have f2 : FrI (V0 [91]) I1 I2 := by rw [e2]; exact FrI.rf.up rfl
      exact men nm 0 x2 I2 (by omega) ex2 (f1.tr (f2.lst (by decide))) (w1.fr f2 rfl) (w2.fr f2 rfl) (w3.fr f2 rfl) (fun m hm => by rw [f2 101 _ rfl]; exact w4 m hm) (by rw [e2, up3_s, ey]) (fun k hk => by rw [e2, up3_j _ hk]) (fun k hk => absurd hk (Nat.not_lt_zero _))
  -- the men at home
  have homes : ∀ (l m : Nat) (x1 : Int32) (l2 : Option AV) (I1 : II), m + l = 4 → x1 = zI m → FrI (V0 chv) I I1 → RA I1 99 (nm + ne) (stB 0) → I1 95 = I 95 → I1 94 = I 94 → I1 91 = I 91 → (∀ k, k < m → I1 101 0 k = zI k) →
      am_J Γ mX3_chooseFirst Q (d + 4) 0 0 10 [some (vR 3 0), some (vI x1), l2] [] I1 Lg R (GM gc) := by
    intro l
    induction l with
    | zero =>
      intro m x1 l2 I1 hml hx1 f1 w1 w2 w3 w5 w4
      have h1t : x1.toInt = m := by rw [hx1, zI_toInt (by omega) (by omega)]
      refine am_goN vX3_chooseFirst 20 ?_
      refine And.intro (fun _ => ?_) (fun z => ?_)
      · refine fun y ey => ?_
        refine evs ne 0 y l2 I1 (fun m => m) ro co [] (by omega) ey f1 w1 (fun j hj => by rw [w2]; exact hro j hj) (fun j hj => by rw [w3]; exact hco j hj) (fun k hk => w4 k (by omega)) hm ht ⟨stok_id, fun j _ hj => ?_, fun j hj => absurd hj (Nat.not_lt_zero _)⟩ rfl rfl (fun k x hk => by cases hk) (fun k _ => by rw [w5])
        have h1 := (hm.1 j hj).1
        by_cases g : ro j < nm
        · exact Or.inl ⟨ro j, g, rfl⟩
        · exact Or.inr ⟨ro j - nm, by omega, by omega, by omega⟩
      · rw [h1t, zI_toInt (by omega) (by omega)] at z
        omega
    | succ l ih =>
      intro m x1 l2 I1 hml hx1 f1 w1 w2 w3 w5 w4
      have h1t : x1.toInt = m := by rw [hx1, zI_toInt (by omega) (by omega)]
      refine am_goN vX3_chooseFirst 3 ?_
      refine And.intro (fun z => ?_) (fun _ => ?_)
      · rw [h1t, zI_toInt (by omega) (by omega)] at z
        omega
      refine am_goN vX3_chooseFirst 20 ?_
      refine And.intro ⟨by omega, by omega⟩ ?_
      refine fun y ey I2 e2 => ?_
      refine fun y1 ey1 => ?_
      rw [h1t, Int.toNat_natCast] at e2
      have f2 : FrI (V0 [101]) I1 I2 := by rw [e2]; exact FrI.rf.up rfl
      refine ih (m + 1) y1 l2 I2 (by omega) (by rw [ey1, hx1, zI_add]; congr 1) (f1.tr (f2.lst (by decide))) (w1.fr f2 rfl) (by rw [← w2]; exact funext (fun i => f2 _ i rfl)) (by rw [← w3]; exact funext (fun i => f2 _ i rfl)) (by rw [← w5]; exact funext (fun i => f2 _ i rfl)) (fun k hk => ?_)
      rw [e2]
      by_cases g : k = m
      · rw [g, up3_s, ey, hx1]
      · rw [up3_j _ g]
        exact w4 k (by omega)
  refine am_runN vX3_chooseFirst 20 _ rfl rfl rfl rfl ?_
  refine s_fill (c := 31) (i := 0) (N := 28) (v := 99) rfl (by omega) (fun I1 g1 => ?_)
  refine fun x1 e1 => ?_
  have f1 := FrI.fill g1
  refine homes 4 0 x1 _ I1 (by omega) e1 (f1.lst (by decide)) ((RA.fill g1 (z := 0) rfl (by omega)).congr (fun j _ => (stB_0 (Nat.zero_le _)).symm)) (funext (fun i => f1 _ i rfl)) (funext (fun i => f1 _ i rfl)) (funext (fun i => f1 _ i rfl)) (fun k hk => absurd hk (Nat.not_lt_zero _))
end CCHOOSE

/-! made in the class: whether a row can have the event; who does which. -/
abbrev cdv : List Nat := [98, 97, 100, 99, 95, 94]
section CCAN
variable {Γ : AMG} {Q : QQ} {d n : Nat} {I : II} {Lg : LJ} {R : RR} {gc : Nat → Nat} {c : Nat → Nat → Int} {p q : Nat → Int}
/-- behind the chain: the event goes to the row -/
theorem pm_swap {T : Nat → Nat → Prop} {st : Nat → Int} {ro co : Nat → Nat} {ro2 co2 : Nat → Int} {row e : Nat} (hr : row < n) (he : e < n) (hm : PMok n ro co) (hne : co row ≠ e) (hst : st e = 0) (hstw : st (co row) = 0) (hTe : T row e) (hT : ∀ j, j < n → T (ro j) j)
    (hE : FLend n (ro e) (fun r => r < n ∧ r ≠ row ∧ updF st e 1 (co r) = 0) (fun j => updF st e 1 j = 0) (fun _ => False) T ro2 co2) (hO : FLout (fun r => r < n ∧ r ≠ row ∧ updF st e 1 (co r) = 0) (fun j => updF st e 1 j = 0) (ro e) (fun j => (ro j : Int)) (fun r => (co r : Int)) ro2 co2) :
    ∃ ro' co' : Nat → Nat, (∀ j, j < n → updF ro2 e row j = ro' j) ∧ (∀ r, r < n → updF co2 row e r = co' r) ∧ PMok n ro' co' ∧ (∀ j, j < n → T (ro' j) j) ∧ (∀ j, j < n → st j ≠ 0 → ro' j = ro j) ∧ ro' e = row := by
  have s1 : ∀ j, j ≠ e → updF st e 1 j = st j := fun j hj => updF_n hj
  have se : updF st e 1 e ≠ 0 := by rw [updF_s]; omega
  have hoe : ro e ≠ row := fun g => hne (by rw [← g]; exact (hm.1 e he).2)
  -- columns
  have hcol : ∀ j, j < n → j ≠ e → ∃ r : Nat, r < n ∧ ro2 j = r ∧ r ≠ row ∧ co2 r = j ∧ T r j ∧ (st j ≠ 0 → r = ro j) := by
    intro j hj hje
    by_cases hs : st j = 0
    · rcases hE.1 j hj (by show updF st e 1 j = 0; rw [s1 j hje]; exact hs) with ⟨_, g⟩ | ⟨r, a1, a2, a3, a4⟩
      · exact g.elim
      · refine ⟨r, ?_, a1, ?_, a3, a4, fun g => absurd hs g⟩
        · rcases a2 with a2 | a2
          · exact a2.1
          · rw [a2]; exact (hm.1 e he).1
        · rcases a2 with a2 | a2
          · exact a2.2.1
          · rw [a2]; exact hoe
    · have hnp : ¬ (updF st e 1 j = 0) := by rw [s1 j hje]; exact hs
      have h1 := hO.1 j hnp
      have hcj := (hm.1 j hj).2
      refine ⟨ro j, (hm.1 j hj).1, h1, fun g => ?_, ?_, hT j hj, fun _ => rfl⟩
      · rw [g] at hcj
        rw [hcj] at hstw
        exact hs hstw
      · have h2 := hO.2 (ro j) (fun g => hnp (by have := g.2.2; rw [hcj] at this; exact this)) (fun g => hje (hm.inj hj he g))
        have h2 : co2 (ro j) = ((co (ro j) : Nat) : Int) := h2
        rw [h2, hcj]
  have hrow : ∀ r, r < n → r ≠ row → ∃ j : Nat, j < n ∧ j ≠ e ∧ co2 r = j ∧ ro2 j = r := by
    intro r hrn hrr
    by_cases g : r = ro e ∨ updF st e 1 (co r) = 0
    · obtain ⟨j, a1, a2, a3, a4⟩ := hE.2 r (by
        rcases g with g | g
        · exact Or.inr g
        · exact Or.inl ⟨hrn, hrr, g⟩)
      exact ⟨j, a1, fun z => se (by rw [z] at a2; exact a2), a3, a4⟩
    · have g1 : r ≠ ro e := fun z => g (Or.inl z)
      have g2 : ¬ updF st e 1 (co r) = 0 := fun z => g (Or.inr z)
      have hc := hm.2 r hrn
      refine ⟨co r, hc.1, fun z => g1 (by rw [← z]; exact hc.2.symm), hO.2 r (fun z => g2 z.2.2) g1, ?_⟩
      have h3 := hO.1 (co r) g2
      have h3 : ro2 (co r) = ((ro (co r) : Nat) : Int) := h3
      rw [h3, hc.2]
  refine ⟨fun j => (updF ro2 e row j).toNat, fun r => (updF co2 row e r).toNat, fun j hj => ?_, fun r hrn => ?_, ⟨fun j hj => ?_, fun r hrn => ?_⟩, fun j hj => ?_, fun j hj hs => ?_, ?_⟩
  · show updF ro2 e row j = ((updF ro2 e row j).toNat : Int)
    by_cases g : j = e
    · rw [g, updF_s]; rfl
    · rw [updF_n g]
      obtain ⟨r, _, a2, _⟩ := hcol j hj g
      rw [a2]; rfl
  · show updF co2 row e r = ((updF co2 row e r).toNat : Int)
    by_cases g : r = row
    · rw [g, updF_s]; rfl
    · rw [updF_n g]
      obtain ⟨j, _, _, a3, _⟩ := hrow r hrn g
      rw [a3]; rfl
  · show (updF ro2 e row j).toNat < n ∧ (updF co2 row e (updF ro2 e row j).toNat).toNat = j
    by_cases g : j = e
    · rw [g, updF_s, Int.toNat_natCast, updF_s, Int.toNat_natCast]
      exact ⟨hr, rfl⟩
    · rw [updF_n g]
      obtain ⟨r, a1, a2, a3, a4, _⟩ := hcol j hj g
      rw [a2, Int.toNat_natCast, updF_n a3, a4, Int.toNat_natCast]
      exact ⟨a1, rfl⟩
  · show (updF co2 row e r).toNat < n ∧ (updF ro2 e row (updF co2 row e r).toNat).toNat = r
    by_cases g : r = row
    · rw [g, updF_s, Int.toNat_natCast, updF_s, Int.toNat_natCast]
      exact ⟨he, rfl⟩
    · rw [updF_n g]
      obtain ⟨j, a1, a2, a3, a4⟩ := hrow r hrn g
      rw [a3, Int.toNat_natCast, updF_n a2, a4, Int.toNat_natCast]
      exact ⟨a1, rfl⟩
  · show T (updF ro2 e row j).toNat j
    by_cases g : j = e
    · rw [g, updF_s, Int.toNat_natCast]; exact hTe
    · rw [updF_n g]
      obtain ⟨r, a1, a2, a3, a4, a5, _⟩ := hcol j hj g
      rw [a2, Int.toNat_natCast]; exact a5
  · show (updF ro2 e row j).toNat = ro j
    have g : j ≠ e := fun z => hs (by rw [z]; exact hst)
    rw [updF_n g]
    obtain ⟨r, a1, a2, a3, a4, a5, a6⟩ := hcol j hj g
    rw [a2, Int.toNat_natCast]; exact a6 hs
  · show (updF ro2 e row e).toNat = row
    rw [updF_s, Int.toNat_natCast]
set_option maxRecDepth 100000 in
theorem s_canDoNext {row e : Nat} {x1 x2 : Int32} {st : Nat → Int} {ro co : Nat → Nat} (hn : n ≤ 28) (hsd : I 18 0 0 = zI n) (hrn : row < n) (hen : e < n) (hx1 : x1 = zI row) (hx2 : x2 = zI e) (hc : CostAt I n c) (hcb : ∀ r j, -9999 ≤ c r j ∧ c r j ≤ 1000000) (hp : RA I 92 n p) (hpb : smallF n p) (hq : RA I 93 n q) (hqb : smallF n q)
    (hst : RA I 99 n st) (hst1 : ∀ j, st j = 0 ∨ st j = 1) (hste : st e = 0) (hstr : co row ≠ e → st (co row) = 0) (hro : RA I 95 n (fun j => (ro j : Int))) (hco : RA I 94 n (fun r => (co r : Int))) (hm : PMok n ro co) (hT : ∀ j, j < n → p (ro j) + q j = c (ro j) j)
    (h1 : ∀ (I' : II) (ro' co' : Nat → Nat) (st' : Nat → Int), FrI (V0 cdv) I I' → RA I' 99 n st' → (∀ j, j ≠ e → st' j = st j) → RA I' 95 n (fun j => (ro' j : Int)) → RA I' 94 n (fun r => (co' r : Int)) → PMok n ro' co' → (∀ j, j < n → p (ro' j) + q j = c (ro' j) j) → (∀ j, j < n → st j ≠ 0 → ro' j = ro j) → ro' e = row → Q (some (vI (zI 1))) I' Lg R (GM gc))
    (h0 : ∀ I' : II, FrI (V0 cdv) I I' → RA I' 99 n st → RA I' 95 n (fun j => (ro j : Int)) → RA I' 94 n (fun r => (co r : Int)) → (∀ τ : Nat → Nat, (∀ j, j < n → τ j < n) → (∀ i j, i < n → j < n → τ i = τ j → i = j) → (∀ j, j < n → st j ≠ 0 → τ j = ro j) → (∀ j, j < n → p (τ j) + q j = c (τ j) j) → τ e ≠ row) → Q (some (vI (zI 0))) I' Lg R (GM gc)) :
    am_Sp Γ (d + 3) 0 0 mX3_canDoNext [vR 3 0, vI x1, vI x2] I Lg R (GM gc) Q := by
  have h1t : x1.toInt = row := by rw [hx1, zI_toInt (by omega) (by omega)]
  have h2t : x2.toInt = e := by rw [hx2, zI_toInt (by omega) (by omega)]
  have hcr := hm.2 row hrn
  have hre := hm.1 e hen
  refine am_runN vX3_canDoNext 2 _ rfl rfl rfl rfl ?_
  refine And.intro (fun z => ?_) (fun _ => ?_)
  · omega
  refine am_goN vX3_canDoNext 4 ?_
  refine And.intro (fun z => ?_) (fun _ => ?_)
  · rw [h1t, hsd, zI_toInt (by omega) (by omega)] at z
    omega
  refine am_goN vX3_canDoNext 2 ?_
  refine And.intro (fun z => ?_) (fun _ => ?_)
  · omega
  refine am_goN vX3_canDoNext 4 ?_
  refine And.intro (fun z => ?_) (fun _ => ?_)
  · rw [h2t, hsd, zI_toInt (by omega) (by omega)] at z
    omega
  refine am_goN vX3_canDoNext 5 ?_
  refine s_isFree hn hrn hen hx1 hx2 hc hcb hp hpb hq hqb (fun hTe => ?_) (fun hTe => ?_)
  rotate_left
  · refine And.intro (fun z => absurd rfl z) (fun _ => ?_)
    refine am_goN vX3_canDoNext 3 ?_
    refine And.intro (Or.inl rfl) ?_
    exact h0 I FrI.rf hst hro hco (fun τ _ _ _ t4 g => hTe (by have := t4 e hen; rw [g] at this; exact this))
  refine And.intro (fun _ => ?_) (fun z3 => ?_)
  rotate_left
  · rw [zI_toInt (by omega) (by omega)] at z3
    omega
  refine am_goN vX3_canDoNext 13 ?_
  refine And.intro ⟨by omega, by omega⟩ ?_
  refine fun x3 ex3 => ?_
  refine And.intro ⟨by omega, by omega⟩ ?_
  refine fun x4 ex4 => ?_
  have ex3 : x3 = zI (co row) := by rw [ex3, h1t, Int.toNat_natCast]; exact hco row hrn
  have ex4 : x4 = zI (ro e) := by rw [ex4, h2t, Int.toNat_natCast]; exact hro e hen
  have h3t : x3.toInt = co row := by rw [ex3, zI_toInt (by omega) (by omega)]
  have h4t : x4.toInt = ro e := by rw [ex4, zI_toInt (by omega) (by omega)]
  refine And.intro (fun z => ?_) (fun z => ?_)
  rotate_left
  · rw [h3t, h2t] at z
    have hce : co row = e := by omega
    refine am_goN vX3_canDoNext 3 ?_
    refine And.intro (Or.inr rfl) ?_
    exact h1 I ro co st FrI.rf hst (fun _ _ => rfl) hro hco hm hT (fun _ _ _ => rfl) (by rw [← hce]; exact hcr.2)
  rw [h3t, h2t] at z
  have hne : co row ≠ e := fun g => z (by rw [g])
  have hstw := hstr hne
  refine am_goN vX3_canDoNext 2 ?_
  refine And.intro (fun z => ?_) (fun _ => ?_)
  · omega
  refine am_goN vX3_canDoNext 4 ?_
  refine And.intro (fun z => ?_) (fun _ => ?_)
  · rw [h3t, hsd, zI_toInt (by omega) (by omega)] at z
    omega
  refine am_goN vX3_canDoNext 2 ?_
  refine And.intro (fun z => ?_) (fun _ => ?_)
  · omega
  refine am_goN vX3_canDoNext 4 ?_
  refine And.intro (fun _ => ?_) (fun z => ?_)
  rotate_left
  · rw [h4t, hsd, zI_toInt (by omega) (by omega)] at z
    omega
  refine am_goN vX3_canDoNext 10 ?_
  refine And.intro ⟨by omega, by omega⟩ ?_
  refine fun y1 ey1 I1 e1 => ?_
  rw [h2t, Int.toNat_natCast] at e1
  have f1 : FrI (V0 [99]) I I1 := by rw [e1]; exact FrI.rf.up rfl
  have hst2 : RA I1 99 n (updF st e 1) := hst.up e1 (z := 1) ey1
  have hs01 : ∀ j, updF st e 1 j = 0 ∨ updF st e 1 j = 1 := fun j => by
    by_cases g : j = e
    · rw [g, updF_s]; exact Or.inr rfl
    · rw [updF_n g]; exact hst1 j
  have hse : updF st e 1 e ≠ 0 := by rw [updF_s]; omega
  have hsw : updF st e 1 (co row) = 0 := by rw [updF_n hne]; exact hstw
  refine s_reaches hn (by rw [f1 18 _ rfl]; exact hsd) hre.1 hcr.1 ex4 ex3 (hc.fr f1 (fun _ => rfl)) hcb (hp.fr f1 rfl) hpb (hq.fr f1 rfl) hqb hst2 hs01 (hro.fr f1 rfl) hm (fun I2 sn fr qu ρ len f2 hfr hB hw => ?_) (fun I2 sn fr qu ρ len f2 hB hw hcf hcl => ?_)
  · refine And.intro (fun _ => ?_) (fun z3 => ?_)
    rotate_left
    · rw [zI_toInt (by omega) (by omega)] at z3
      omega
    refine am_goN vX3_canDoNext 16 ?_
    have hoe : ro e ≠ row := fun g => hne (by rw [← g]; exact hre.2)
    refine s_flip (PR := fun r => r < n ∧ r ≠ row ∧ updF st e 1 (co r) = 0) (PC := fun j => updF st e 1 j = 0) (Z := fun _ => False) (T := fun r j => p r + q j = c r j) (ρ := ρ) hn (by rw [f2 18 _ rfl, f1 18 _ rfl]; exact hsd) ex4 ex3 ((hro.fr f1 rfl).fr f2 rfl) ((hco.fr f1 rfl).fr f2 rfl) hfr hre.1 (fun r hr => hr.1) (fun g => hse (by have := g.2.2; rw [hre.2] at this; exact this)) ⟨fun j hj hjc hjw => ?_, fun r hr => ?_⟩ hB.tree ⟨hcr.1, hw⟩ ?_ (fun I3 ro2 co2 f3 r3 c3 hE hO => ?_)
    · refine Or.inr ⟨ro j, rfl, ⟨(hm.1 j hj).1, fun g => hjw ?_, ?_⟩, ?_, hT j hj⟩
      · rw [← g, (hm.1 j hj).2]
      · show updF st e 1 (co (ro j)) = 0
        rw [(hm.1 j hj).2]; exact hjc
      · show ((co (ro j) : Nat) : Int) = j
        rw [(hm.1 j hj).2]
    · refine ⟨co r, (hm.2 r hr.1).1, hr.2.2, fun g => hr.2.1 ?_, rfl, ?_⟩
      · rw [← (hm.2 r hr.1).2, g, hcr.2]
      · show ((ro (co r) : Nat) : Int) = r
        rw [(hm.2 r hr.1).2]
    · have := (hB.2.1 _ hcr.1 hw).1
      have := hB.le
      omega
    obtain ⟨ro', co', a1, a2, a3, a4, a5, a6⟩ := pm_swap hrn hen hm hne hste hstw hTe hT hE hO
    refine And.intro ⟨by omega, by omega⟩ ?_
    refine fun y4 ey4 I4 e4 => ?_
    refine And.intro ⟨by omega, by omega⟩ ?_
    refine fun y5 ey5 I5 e5 => ?_
    refine And.intro (Or.inr rfl) ?_
    rw [h2t, Int.toNat_natCast] at e4
    rw [h1t, Int.toNat_natCast] at e5
    have f4 : FrI (V0 [95]) I3 I4 := by rw [e4]; exact FrI.rf.up rfl
    have f5 : FrI (V0 [94]) I4 I5 := by rw [e5]; exact FrI.rf.up rfl
    refine h1 I5 ro' co' (updF st e 1) (((((f1.lst (by decide)).tr (f2.lst (by decide))).tr (f3.lst (by decide))).tr (f4.lst (by decide))).tr (f5.lst (by decide))) ((((hst2.fr f2 rfl).fr f3 rfl).fr f4 rfl).fr f5 rfl) (fun j hj => updF_n hj) ?_ ?_ a3 a4 a5 a6
    · exact ((r3.up e4 (z := row) (by rw [ey4, hx1])).fr f5 rfl).congr a1
    · exact ((c3.fr f4 rfl).up e5 (z := e) (by rw [ey5, hx2])).congr a2
  · refine And.intro (fun z3 => absurd rfl z3) (fun _ => ?_)
    refine am_goN vX3_canDoNext 10 ?_
    refine And.intro ⟨by omega, by omega⟩ ?_
    refine fun y3 ey3 I3 e3 => ?_
    refine And.intro (Or.inl rfl) ?_
    rw [h2t, Int.toNat_natCast] at e3
    have f3 : FrI (V0 [99]) I2 I3 := by rw [e3]; exact FrI.rf.up rfl
    refine h0 I3 (((f1.lst (by decide)).tr (f2.lst (by decide))).tr (f3.lst (by decide))) (((hst2.fr f2 rfl).up e3 (z := 0) ey3).congr (fun j _ => ?_)) (((hro.fr f1 rfl).fr f2 rfl).fr f3 rfl) (((hco.fr f1 rfl).fr f2 rfl).fr f3 rfl) (fun τ t1 t2 t3 t4 => ?_)
    · show (if j = e then 0 else updF st e 1 j) = st j
      by_cases g : j = e
      · rw [if_pos g, g, hste]
      · rw [if_neg g, updF_n g]
    · have := hB.no hm hen hcr.1 rfl hse hsw hw hcf hcl t1 t2 (fun j hj hs hje => t3 j hj (by rw [updF_n hje] at hs; exact hs)) t4
      rw [hcr.2] at this
      exact this
end CCAN

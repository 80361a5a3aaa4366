/-! The class's night: an event. -/
/-- what the score keeps beside EVok: something is heard, a gate is turned or back -/
def EVok2 (l : List MC) (e : EV) : Prop := ((mof l e.2.1).1 = 4 → e.2.2 ≤ 1) ∧ ((mof l e.2.1).1 ≠ 0 → (mof l e.2.1).1 ≠ 4 → 1 ≤ e.2.2)
def EVsok2 (l : List MC) (es : List EV) : Prop := ∀ (k : Nat) (e : EV), es[k]? = some e → EVok2 l e
/-- the heads stand at runs that are -/
def HDok (rn : Nat → RUN) (l : List MC) : Prop := ∀ (k : Nat) (e : MC), l[k]? = some e → e.1 = 0 → 0 < (rn e.2.2.1.toNat).length
theorem ewt_pos {l : List MC} {e : EV} (h : EVok2 l e) : 0 < ewt l e := by
  unfold ewt wth
  split
  · omega
  · next q => exact h.2 (fun z => q (Or.inl z)) (fun z => q (Or.inr z))
def gsU (g : Int32) (b n : Int) : Int32 := (g &&& ((zI 1 <<< (zI b &&& 31)) ^^^ zI (-1))) ||| (zI n <<< (zI b &&& 31))
theorem or_mask (x y : Int32) : (x &&& (y ^^^ zI (-1))) ||| y = x ||| y := by
  apply Int32.toBitVec.inj
  have e : (zI (-1)).toBitVec = BitVec.allOnes 32 := by decide
  simp only [Int32.toBitVec_or, Int32.toBitVec_and, Int32.toBitVec_xor, e]
  apply BitVec.eq_of_getLsbD_eq
  intro i hi
  simp only [BitVec.getLsbD_or, BitVec.getLsbD_and, BitVec.getLsbD_xor, BitVec.getLsbD_allOnes, hi, decide_true]
  cases x.toBitVec.getLsbD i <;> cases y.toBitVec.getLsbD i <;> rfl
theorem or_zero (x y : Int32) : x ||| (zI 0 <<< y) = x := by
  have e : (zI 0 <<< y) = 0 := by
    apply Int32.toBitVec.inj
    simp [zI]
  rw [e]
  apply Int32.toBitVec.inj
  simp
theorem gsU_0 (g : Int32) (b : Int) : gsU g b 0 = g &&& ((zI 1 <<< (zI b &&& 31)) ^^^ zI (-1)) := or_zero _ _
theorem gsU_1 (g : Int32) (b : Int) : gsU g b 1 = g ||| (zI 1 <<< (zI b &&& 31)) := or_mask _ _
def useB (l : List MC) (e : EV) (B : List NB) : List NB := if (mof l e.2.1).1 = 0 then B ++ [((mof l e.2.1).2.2.1, 0, 0, 0)] else B
def useG (l : List MC) (e : EV) (gs : Nat → Int32) : Nat → Int32 := if (mof l e.2.1).1 = 4 then fun r => if r = (mof l e.2.1).2.2.1.toNat then gsU (gs r) (mof l e.2.1).2.2.2 e.2.2 else gs r else gs
def useS (l : List MC) (e : EV) (S : NST) : NST := if (mof l e.2.1).1 = 0 then letN (hearN S (e.1, e.2.1, ewt l e)) else hearN S (e.1, e.2.1, ewt l e)
theorem useB_ok {rn : Nat → RUN} {l : List MC} {e : EV} {B : List NB} (hrn : RNSok rn) (hl : MCsok l) (hd : HDok rn l) (he : EVok l e) (hB : ∀ b ∈ B, NBok rn b) : ∀ b ∈ useB l e B, NBok rn b := by
  unfold useB
  split
  · next q =>
    intro b hb
    rcases List.mem_append.mp hb with hb | hb
    · exact hB b hb
    · rw [List.mem_singleton] at hb
      subst hb
      have hm := mof_get he.2.2.1 he.2.2.2.1
      have hk := (hl.2 _ _ hm).2.2.2.2.2.2.2.1 (Or.inl q)
      have hh := hd _ _ hm q
      refine ⟨hk.1, hk.2, hh, by show (0 : Int) ≤ 0; omega, by show (0 : Int) ≤ _; omega, by show (0 : Int) ≤ 0; omega, by show (0 : Int) ≤ _; omega, Or.inr ⟨⟨by show (0 : Int) ≤ 0; omega, by show (0 : Int) < _; dsimp only; omega, by show (0 : Int) ≤ 0; omega, by show (0 : Int) ≤ _; omega, by show (0 : Int) ≤ 0; omega, by show (0 : Int) ≤ _; omega⟩, fun x hx => ?_⟩⟩
      have := ((hrn _ (by omega)).2 _ x hx).1.1
      show (0 : Int) < _
      omega
  · exact hB
/-- the class's night between its ticks -/
def CNS (I : II) (B : List NB) (gs : Nat → Int32) (S : NST) : Prop := CNAt I S ∧ I 27 0 0 = zI B.length ∧ (∀ (j : Nat) (b : NB), B[j]? = some b → CBall I j b) ∧ ∀ r, r < 4 → I 112 0 r = gs r
abbrev nglv : List Nat := 29 :: 27 :: 112 :: 30 :: rlv
def VNT : Nat → Nat → Bool := fun v i => V0 nglv v i || (blv.elem v && (Nat.ble 2 i && Nat.ble i 25))
theorem VNT_out {vs : List Nat} (h : vs.all (fun v => !nglv.elem v && !blv.elem v) = true) : ∀ v ∈ vs, ∀ i, VNT v i = false := by
  intro v hv i
  have h1 := List.all_eq_true.mp h v hv
  rw [Bool.and_eq_true, Bool.not_eq_true', Bool.not_eq_true'] at h1
  unfold VNT V0
  rw [h1.1, h1.2]
  rfl
theorem FrI.toNT {I I' : II} {l : List Nat} (h : FrI (V0 l) I I') (hl : l.all (fun v => nglv.elem v) = true) : FrI VNT I I' := h.mono (fun v i hv => V0_sub (l2 := nglv) hl (by unfold VNT at hv; exact (Bool.or_eq_false_iff.mp hv).1))
theorem VRA_NT {v i : Nat} (h : VNT v i = false) : VRA v i = false := by
  unfold VNT at h
  unfold VRA
  obtain ⟨h1, h2⟩ := Bool.or_eq_false_iff.mp h
  rw [h2, Bool.or_false]
  exact V0_sub (l2 := nglv) (by decide) h1
theorem CBall.fr {I I' : II} {P : Nat → Nat → Bool} {j : Nat} {b : NB} (h : CBall I j b) (hf : FrI P I I') (hq : ∀ v ∈ blv, P v (2 + j) = false) : CBall I' j b := by
  obtain ⟨h1, h2, h3, h4⟩ := h
  exact ⟨by rw [hf _ _ (hq _ (by decide))]; exact h1, by rw [hf _ _ (hq _ (by decide))]; exact h2, by rw [hf _ _ (hq _ (by decide))]; exact h3, by rw [hf _ _ (hq _ (by decide))]; exact h4⟩
set_option maxRecDepth 100000 in
theorem s_use {Γ : AMG} {Q : QQ} {d : Nat} {x1 x2 : Int32} {I : II} {Lg : LJ} {R : RR} {gc : Nat → Nat} {l : List MC} {e : EV} {B : List NB} {gs : Nat → Int32} {S : NST} (hl : MCsok l) (hm : CMAt I l) (he : EVok l e) (he2 : EVok2 l e) (hx1 : x1 = zI e.2.1) (hx2 : x2 = zI e.2.2) (hnow : I 30 0 0 = zI e.1) (hB : B.length < 24) (hN : CNS I B gs S)
    (h : ∀ I' : II, FrI VNT I I' → CNS I' (useB l e B) (useG l e gs) (useS l e S) → I' 30 0 0 = zI e.1 → I' 31 0 0 = (if (mof l e.2.1).1 = 0 then zI 0 else I 31 0 0) → Q none I' Lg R (GM gc)) :
    am_Sp Γ (d + 3) 0 0 mX6_use [vR 6 0, vI x1, vI x2, vR 5 0] I Lg R (GM gc) Q := by
  have hp := ewt_pos he2
  have hw := ewt_rng he
  obtain ⟨e1, e2, e3, e4, e5, e6⟩ := id he
  have hlen := hl.1
  have hg := mof_get e3 e4
  obtain ⟨k0, k1, k2, k3, k4, k5, k6, k7, k8⟩ := id (hl.2 _ _ hg)
  have hmk : MCok (mof l e.2.1) := hl.2 _ _ hg
  have hx : x1 = zI ((e.2.1.toNat : Nat) : Int) := by rw [hx1]; congr 1; omega
  unfold useB useG useS at h
  unfold ewt at h hp hw
  generalize hmc : mof l e.2.1 = mc at *
  obtain ⟨n1, n2, n3, n4⟩ := hN
  have ht2 : x2.toInt = e.2.2 := by rw [hx2, zI_toInt (by omega) (by omega)]
  refine am_runN vX6_use 60 _ rfl rfl rfl rfl ?_
  refine s_cm_firstOfE hlen hm hx hg ?_
  refine fun x4 ex4 => ?_
  refine s_cm_kindOfE hlen hm hx hg ?_
  refine fun x5 ex5 => ?_
  refine s_cm_strength (n := e.2.2) hlen hm hx hx2 hg hmk ?_
  have hk5 : x5.toInt = mc.1 := by rw [ex5, zI_toInt (by omega) (by omega)]
  refine s_nhearS (a := e.1) (b := e.2.1) (s := wth mc e.2.2) n1 hnow hx1 rfl (by omega) (by omega) (fun I1 f1 s1 => ?_)
  rw [if_pos hp] at s1
  have l1 : I1 27 0 0 = zI B.length := by rw [f1 _ _ rfl]; exact n2
  have lt1 : (I1 27 0 0).toInt = B.length := by rw [l1, zI_toInt (by omega) (by omega)]
  have g1 : ∀ r, r < 4 → I1 112 0 r = gs r := fun r hr => by rw [f1 _ _ rfl]; exact n4 r hr
  have b1 : ∀ (j : Nat) (b : NB), B[j]? = some b → CBall I1 j b := fun j b hj => (n3 j b hj).fr f1 (fun v hv => V0_outI (by decide) v hv _)
  refine And.intro (fun c => ?_) (fun c => ?_)
  · rw [hk5] at c
    rw [if_neg c, if_neg c, if_neg c] at h
    refine And.intro (fun c2 => ?_) (fun c2 => ?_)
    · rw [hk5, zI_toInt (by omega) (by omega)] at c2
      rw [if_neg c2] at h
      exact h I1 (f1.toNT (by decide)) ⟨s1, l1, b1, g1⟩ (by rw [f1 _ _ rfl]; exact hnow) (by rw [f1 _ _ rfl])
    · rw [hk5, zI_toInt (by omega) (by omega)] at c2
      rw [if_pos c2] at h
      have ha := k7 (Or.inr c2)
      have hb := k8 c2
      have hn1 := he2.1 (by rw [hmc]; exact c2)
      have ht4 : x4.toInt = mc.2.2.1 := by rw [ex4, zI_toInt (by omega) (by omega)]
      refine And.intro (fun c3 => ?_) (fun c3 => ?_)
      · omega
      refine And.intro (fun c4 => ?_) (fun c4 => ?_)
      · rw [zI_toInt (by omega) (by omega)] at c4
        omega
      refine s_cm_secondOfE hlen (hm.fr f1 (V0_out (by decide))) hx hg ?_
      refine fun x6 ex6 => ?_
      have hn4 : x4.toInt.toNat = mc.2.2.1.toNat := by rw [ht4]
      have fin : ∀ (y : Int32) (I2 : II), y = gsU (gs mc.2.2.1.toNat) mc.2.2.2 e.2.2 → I2 = up3 I1 112 0 x4.toInt.toNat y → Q none I2 Lg R (GM gc) := by
        intro y I2 hy e2'
        have f2 : FrI (V0 [112]) I1 I2 := by rw [e2']; exact FrI.rf.up rfl
        refine h I2 ((f1.toNT (by decide)).tr (f2.toNT (by decide))) ⟨CNtAt.fr s1 f2 (V0_out (by decide)), by rw [f2 _ _ rfl]; exact l1, fun j b hj => (b1 j b hj).fr f2 (fun v hv => V0_outI (by decide) v hv _), fun r hr => ?_⟩ (by rw [f2 _ _ rfl, f1 _ _ rfl]; exact hnow) (by rw [f2 _ _ rfl, f1 _ _ rfl])
        rw [e2', hn4, up3_a]
        by_cases q : r = mc.2.2.1.toNat
        · rw [if_pos ⟨rfl, rfl, q⟩]
          dsimp only
          rw [if_pos q, hy, q]
        · rw [if_neg (fun z => q z.2.2)]
          dsimp only
          rw [if_neg q]
          exact g1 r hr
      refine And.intro (fun c5 => ?_) (fun c5 => ?_)
      · rw [ht2] at c5
        refine And.intro ⟨by omega, by omega⟩ ?_
        refine And.intro ⟨by omega, by omega⟩ ?_
        refine fun y ey I2 e2' => ?_
        refine fin y I2 ?_ e2'
        rw [ey, hn4, g1 _ (by omega), ex6, show e.2.2 = 1 by omega, gsU_1]
      · rw [ht2] at c5
        refine And.intro ⟨by omega, by omega⟩ ?_
        refine And.intro ⟨by omega, by omega⟩ ?_
        refine fun y ey I2 e2' => ?_
        refine fin y I2 ?_ e2'
        rw [ey, hn4, g1 _ (by omega), ex6, show e.2.2 = 0 by omega, gsU_0]
  · rw [hk5] at c
    have h4 : mc.1 ≠ 4 := by omega
    rw [if_pos c, if_neg h4, if_pos c, if_pos c] at h
    refine And.intro (fun c2 => ?_) (fun c2 => ?_)
    · rw [lt1, zI_toInt (by omega) (by omega)] at c2
      omega
    refine And.intro ⟨by omega, by omega⟩ ?_
    have hln : (I1 27 0 0).toInt.toNat = B.length := by rw [lt1]; omega
    rw [hln]
    refine s_letGoOn (fun I2 f2 r2 c2' => ?_)
    refine fun y1 ey1 I3 e3' => ?_
    refine And.intro (Or.inl rfl) ?_
    refine fun y2 ey2 I4 e4' => ?_
    have f2' : FrI (VRL B.length) I1 I2 := f2.toRB (by decide)
    have f3 : FrI (V0 [27]) I2 I3 := by rw [e3']; exact FrI.rf.up rfl
    have f4 : FrI (V0 [31]) I3 I4 := by rw [e4']; exact FrI.rf.up rfl
    have s2 : CNAt I2 (hearN S (e.1, e.2.1, wth mc e.2.2)) := CNtAt.fr s1 f2 (V1_out (by decide) · · 0)
    have s3 := s2.let_ e3' ey1
    refine h I4 ?_ ⟨CNtAt.fr s3 f4 (V0_out (by decide)), ?_, fun j b hj => ?_, fun r hr => ?_⟩ ?_ (by rw [e4', up3_s, ey2])
    · refine ((f1.toNT (by decide)).tr (f2'.mono (fun v i q => VRL_A (by omega) (VRA_NT q)))).tr ((f3.toNT (by decide)).tr (f4.toNT (by decide)))
    · rw [f4 _ _ rfl, e3', up3_s, ey1, f2 _ _ (V1_out (vs := [27]) (by decide) _ (by decide) _), l1, zI_add, List.length_append]
      rfl
    · have g4 : ∀ (j : Nat) (b : NB), CBall I2 j b → CBall I4 j b := fun j b q => (q.fr f3 (fun v hv => V0_outI (by decide) v hv _)).fr f4 (fun v hv => V0_outI (by decide) v hv _)
      rcases app_get hj with ⟨hj1, hj2⟩ | ⟨hj1, hj2⟩
      · subst hj1
        subst hj2
        exact g4 _ _ ⟨by rw [r2, ex4], c2'.1, c2'.2.1, c2'.2.2.1⟩
      · exact g4 _ _ ((b1 j b hj2).ne f2' hj1)
    · rw [f4 _ _ rfl, f3 _ _ rfl, f2 _ _ (V1_out (vs := [112]) (by decide) _ (by decide) _)]
      exact g1 r hr
    · rw [f4 _ _ rfl, f3 _ _ rfl, f2 _ _ (V1_out (vs := [30]) (by decide) _ (by decide) _), f1 _ _ rfl]
      exact hnow

/-! The constructor of the reference (printed by wip/whole/genG4.py). -/
def cntL : List Nat → Nat → Nat
  | [], _ => 0
  | t :: ts, x => d1 t x + cntL ts x
theorem cntL_take : ∀ (l : List Nat) (n t x : Nat), l[n]? = some t → cntL (l.take (n + 1)) x = cntL (l.take n) x + d1 t x
  | [], n, t, x, h => by cases h
  | y :: l, 0, t, x, h => by
    have e : y = t := Option.some.inj h
    subst e
    show d1 y x + cntL (l.take 0) x = 0 + d1 y x
    show d1 y x + 0 = 0 + d1 y x
    omega
  | y :: l, n + 1, t, x, h => by
    show d1 y x + cntL (l.take (n + 1)) x = d1 y x + cntL (l.take n) x + d1 t x
    rw [cntL_take l n t x h]
    omega
theorem elem_take : ∀ (l : List Nat) (n f k : Nat), l[n]? = some f → (l.take (n + 1)).elem k = true → (l.take n).elem k = true ∨ k = f
  | [], n, f, k, h, _ => by cases h
  | y :: l, 0, f, k, h, h2 => by
    have e : y = f := Option.some.inj h
    subst e
    exact Or.inr (List.mem_singleton.mp (List.elem_iff.mp h2))
  | y :: l, n + 1, f, k, h, h2 => by
    have h3 : k ∈ y :: l.take (n + 1) := List.elem_iff.mp h2
    rcases List.mem_cons.mp h3 with e | h3
    · exact Or.inl (List.elem_iff.mpr (by rw [e]; exact List.mem_cons_self))
    · rcases elem_take l n f k h (List.elem_iff.mpr h3) with h4 | h4
      · exact Or.inl (List.elem_iff.mpr (List.mem_cons_of_mem _ (List.elem_iff.mp h4)))
      · exact Or.inr h4
def mdT : List Nat := [62, 63, 64, 65, 66, 67, 68, 69, 70, 71, 72, 73, 74, 75, 76, 77, 78, 79, 80, 81, 82, 83, 84, 85, 86, 87, 88, 89, 90, 91, 92, 93, 94, 95, 96, 97, 98, 99, 100, 101, 102, 103, 104, 105, 106, 107, 108, 109, 110, 111, 112, 113, 114]
def mdF : List Nat := [1, 3, 4, 5, 6, 7, 8, 9, 10, 11, 12, 19, 20, 21, 22, 23, 24, 29, 30, 31, 32, 33, 44, 45, 46, 47, 48, 49, 50, 51, 56, 57, 58, 59, 62, 63, 64, 65, 66, 67, 68, 69, 70, 71, 78, 79, 80, 81, 82, 83, 84, 85, 86]
def MdI (G0 G : GG) (n : Nat) : Prop := GR G0 G (fun c j k => c = 12 ∧ j = 0 ∧ (mdF.take n).elem k = true) (cntL (mdT.take n))
theorem MdI.put {G0 G : GG} {n t f : Nat} (h : MdI G0 G n) (hT : mdT[n]? = some t) (hF : mdF[n]? = some f) : MdI G0 (up3 (am_newG G t).1 12 0 f true, (am_newG G t).2) (n + 1) :=
  ((h.new t).put 12 0 f (by decide)).sub (fun c j k q => (elem_take _ _ _ _ hF q.2.2).elim (fun z => Or.inl ⟨q.1, q.2.1, z⟩) (fun z => Or.inr ⟨q.1, q.2.1, z⟩)) (fun x => (cntL_take _ _ _ _ hT).symm)
theorem MdI.cnt {G0 G : GG} {n t : Nat} (h : MdI G0 G n) (h0 : ∀ x, mdT.elem x = true → G0.2 x = 0) (hT : mdT.elem t = true) (hc : cntL (mdT.take n) t = 0) : G.2 t = 0 := by
  rw [h.1, h0 t hT, hc]
set_option maxRecDepth 100000 in
set_option maxHeartbeats 4000000 in
theorem s_Mdinit {Γ : AMG} {Q : QQ} {d : Nat} {I : II} {Lg : LJ} {R : RR} {G0 : GG} (ho : Opn G0) (h0 : ∀ x, mdT.elem x = true → G0.2 x = 0)
    (h : ∀ G : GG, MdI G0 G 53 → Q none I Lg R G) : am_Sp Γ (d + 2) 53 515402 mX12_init [vR 12 0] I Lg R G0 Q := by
  refine am_runN vX12_init 2 _ rfl rfl rfl rfl ?_
  have hI : MdI G0 G0 0 := GR.rf.sub (fun c j k q => by cases q.2.2) (fun _ => rfl)
  show am_J Γ mX12_init Q (d + 2) 53 515402 4 [some (vR 12 0)] [] I Lg R G0
  refine am_goN vX12_init 4 ?_
  refine am_cnd (am_bop (GR.opn hI ho 62)) ⟨rfl, fun _ => ?_⟩
  refine And.intro ⟨rfl, hI.cnt h0 rfl rfl⟩ ?_
  have hI1 := hI.put (n := 0) (t := 62) (f := 1) rfl rfl
  show am_J Γ mX12_init Q (d + 2) 52 514762 13 [some (vR 12 0)] [] I Lg R (up3 (am_newG G0 62).1 12 0 1 true, (am_newG G0 62).2)
  revert hI1
  generalize ((up3 (am_newG G0 62).1 12 0 1 true, (am_newG G0 62).2) : GG) = G1
  intro hI1
  refine am_goN vX12_init 4 ?_
  refine am_cnd (am_bop (GR.opn hI1 ho 63)) ⟨rfl, fun _ => ?_⟩
  refine And.intro ⟨rfl, hI1.cnt h0 rfl rfl⟩ ?_
  have hI2 := hI1.put (n := 1) (t := 63) (f := 3) rfl rfl
  show am_J Γ mX12_init Q (d + 2) 51 514746 21 [some (vR 12 0)] [] I Lg R (up3 (am_newG G1 63).1 12 0 3 true, (am_newG G1 63).2)
  revert hI2
  generalize ((up3 (am_newG G1 63).1 12 0 3 true, (am_newG G1 63).2) : GG) = G2
  intro hI2
  clear hI1
  refine am_goN vX12_init 4 ?_
  refine am_cnd (am_bop (GR.opn hI2 ho 64)) ⟨rfl, fun _ => ?_⟩
  refine And.intro ⟨rfl, hI2.cnt h0 rfl rfl⟩ ?_
  have hI3 := hI2.put (n := 2) (t := 64) (f := 4) rfl rfl
  show am_J Γ mX12_init Q (d + 2) 50 514730 29 [some (vR 12 0)] [] I Lg R (up3 (am_newG G2 64).1 12 0 4 true, (am_newG G2 64).2)
  revert hI3
  generalize ((up3 (am_newG G2 64).1 12 0 4 true, (am_newG G2 64).2) : GG) = G3
  intro hI3
  clear hI2
  refine am_goN vX12_init 4 ?_
  refine am_cnd (am_bop (GR.opn hI3 ho 65)) ⟨rfl, fun _ => ?_⟩
  refine And.intro ⟨rfl, hI3.cnt h0 rfl rfl⟩ ?_
  have hI4 := hI3.put (n := 3) (t := 65) (f := 5) rfl rfl
  show am_J Γ mX12_init Q (d + 2) 49 514714 37 [some (vR 12 0)] [] I Lg R (up3 (am_newG G3 65).1 12 0 5 true, (am_newG G3 65).2)
  revert hI4
  generalize ((up3 (am_newG G3 65).1 12 0 5 true, (am_newG G3 65).2) : GG) = G4
  intro hI4
  clear hI3
  refine am_goN vX12_init 4 ?_
  refine am_cnd (am_bop (GR.opn hI4 ho 66)) ⟨rfl, fun _ => ?_⟩
  refine And.intro ⟨rfl, hI4.cnt h0 rfl rfl⟩ ?_
  have hI5 := hI4.put (n := 4) (t := 66) (f := 6) rfl rfl
  show am_J Γ mX12_init Q (d + 2) 48 514698 45 [some (vR 12 0)] [] I Lg R (up3 (am_newG G4 66).1 12 0 6 true, (am_newG G4 66).2)
  revert hI5
  generalize ((up3 (am_newG G4 66).1 12 0 6 true, (am_newG G4 66).2) : GG) = G5
  intro hI5
  clear hI4
  refine am_goN vX12_init 4 ?_
  refine am_cnd (am_bop (GR.opn hI5 ho 67)) ⟨rfl, fun _ => ?_⟩
  refine And.intro ⟨rfl, hI5.cnt h0 rfl rfl⟩ ?_
  have hI6 := hI5.put (n := 5) (t := 67) (f := 7) rfl rfl
  show am_J Γ mX12_init Q (d + 2) 47 514682 53 [some (vR 12 0)] [] I Lg R (up3 (am_newG G5 67).1 12 0 7 true, (am_newG G5 67).2)
  revert hI6
  generalize ((up3 (am_newG G5 67).1 12 0 7 true, (am_newG G5 67).2) : GG) = G6
  intro hI6
  clear hI5
  refine am_goN vX12_init 4 ?_
  refine am_cnd (am_bop (GR.opn hI6 ho 68)) ⟨rfl, fun _ => ?_⟩
  refine And.intro ⟨rfl, hI6.cnt h0 rfl rfl⟩ ?_
  have hI7 := hI6.put (n := 6) (t := 68) (f := 8) rfl rfl
  show am_J Γ mX12_init Q (d + 2) 46 514677 60 [some (vR 12 0)] [] I Lg R (up3 (am_newG G6 68).1 12 0 8 true, (am_newG G6 68).2)
  revert hI7
  generalize ((up3 (am_newG G6 68).1 12 0 8 true, (am_newG G6 68).2) : GG) = G7
  intro hI7
  clear hI6
  refine am_goN vX12_init 4 ?_
  refine am_cnd (am_bop (GR.opn hI7 ho 69)) ⟨rfl, fun _ => ?_⟩
  refine And.intro ⟨rfl, hI7.cnt h0 rfl rfl⟩ ?_
  have hI8 := hI7.put (n := 7) (t := 69) (f := 9) rfl rfl
  show am_J Γ mX12_init Q (d + 2) 45 514617 68 [some (vR 12 0)] [] I Lg R (up3 (am_newG G7 69).1 12 0 9 true, (am_newG G7 69).2)
  revert hI8
  generalize ((up3 (am_newG G7 69).1 12 0 9 true, (am_newG G7 69).2) : GG) = G8
  intro hI8
  clear hI7
  refine am_goN vX12_init 4 ?_
  refine am_cnd (am_bop (GR.opn hI8 ho 70)) ⟨rfl, fun _ => ?_⟩
  refine And.intro ⟨rfl, hI8.cnt h0 rfl rfl⟩ ?_
  have hI9 := hI8.put (n := 8) (t := 70) (f := 10) rfl rfl
  show am_J Γ mX12_init Q (d + 2) 44 514557 76 [some (vR 12 0)] [] I Lg R (up3 (am_newG G8 70).1 12 0 10 true, (am_newG G8 70).2)
  revert hI9
  generalize ((up3 (am_newG G8 70).1 12 0 10 true, (am_newG G8 70).2) : GG) = G9
  intro hI9
  clear hI8
  refine am_goN vX12_init 4 ?_
  refine am_cnd (am_bop (GR.opn hI9 ho 71)) ⟨rfl, fun _ => ?_⟩
  refine And.intro ⟨rfl, hI9.cnt h0 rfl rfl⟩ ?_
  have hI10 := hI9.put (n := 9) (t := 71) (f := 11) rfl rfl
  show am_J Γ mX12_init Q (d + 2) 43 514497 84 [some (vR 12 0)] [] I Lg R (up3 (am_newG G9 71).1 12 0 11 true, (am_newG G9 71).2)
  revert hI10
  generalize ((up3 (am_newG G9 71).1 12 0 11 true, (am_newG G9 71).2) : GG) = G10
  intro hI10
  clear hI9
  refine am_goN vX12_init 4 ?_
  refine am_cnd (am_bop (GR.opn hI10 ho 72)) ⟨rfl, fun _ => ?_⟩
  refine And.intro ⟨rfl, hI10.cnt h0 rfl rfl⟩ ?_
  have hI11 := hI10.put (n := 10) (t := 72) (f := 12) rfl rfl
  show am_J Γ mX12_init Q (d + 2) 42 514437 92 [some (vR 12 0)] [] I Lg R (up3 (am_newG G10 72).1 12 0 12 true, (am_newG G10 72).2)
  revert hI11
  generalize ((up3 (am_newG G10 72).1 12 0 12 true, (am_newG G10 72).2) : GG) = G11
  intro hI11
  clear hI10
  refine am_goN vX12_init 4 ?_
  refine am_cnd (am_bop (GR.opn hI11 ho 73)) ⟨rfl, fun _ => ?_⟩
  refine And.intro ⟨rfl, hI11.cnt h0 rfl rfl⟩ ?_
  have hI12 := hI11.put (n := 11) (t := 73) (f := 19) rfl rfl
  show am_J Γ mX12_init Q (d + 2) 41 514425 100 [some (vR 12 0)] [] I Lg R (up3 (am_newG G11 73).1 12 0 19 true, (am_newG G11 73).2)
  revert hI12
  generalize ((up3 (am_newG G11 73).1 12 0 19 true, (am_newG G11 73).2) : GG) = G12
  intro hI12
  clear hI11
  refine am_goN vX12_init 4 ?_
  refine am_cnd (am_bop (GR.opn hI12 ho 74)) ⟨rfl, fun _ => ?_⟩
  refine And.intro ⟨rfl, hI12.cnt h0 rfl rfl⟩ ?_
  have hI13 := hI12.put (n := 12) (t := 74) (f := 20) rfl rfl
  show am_J Γ mX12_init Q (d + 2) 40 514413 108 [some (vR 12 0)] [] I Lg R (up3 (am_newG G12 74).1 12 0 20 true, (am_newG G12 74).2)
  revert hI13
  generalize ((up3 (am_newG G12 74).1 12 0 20 true, (am_newG G12 74).2) : GG) = G13
  intro hI13
  clear hI12
  refine am_goN vX12_init 4 ?_
  refine am_cnd (am_bop (GR.opn hI13 ho 75)) ⟨rfl, fun _ => ?_⟩
  refine And.intro ⟨rfl, hI13.cnt h0 rfl rfl⟩ ?_
  have hI14 := hI13.put (n := 13) (t := 75) (f := 21) rfl rfl
  show am_J Γ mX12_init Q (d + 2) 39 514401 116 [some (vR 12 0)] [] I Lg R (up3 (am_newG G13 75).1 12 0 21 true, (am_newG G13 75).2)
  revert hI14
  generalize ((up3 (am_newG G13 75).1 12 0 21 true, (am_newG G13 75).2) : GG) = G14
  intro hI14
  clear hI13
  refine am_goN vX12_init 4 ?_
  refine am_cnd (am_bop (GR.opn hI14 ho 76)) ⟨rfl, fun _ => ?_⟩
  refine And.intro ⟨rfl, hI14.cnt h0 rfl rfl⟩ ?_
  have hI15 := hI14.put (n := 14) (t := 76) (f := 22) rfl rfl
  show am_J Γ mX12_init Q (d + 2) 38 514389 124 [some (vR 12 0)] [] I Lg R (up3 (am_newG G14 76).1 12 0 22 true, (am_newG G14 76).2)
  revert hI15
  generalize ((up3 (am_newG G14 76).1 12 0 22 true, (am_newG G14 76).2) : GG) = G15
  intro hI15
  clear hI14
  refine am_goN vX12_init 4 ?_
  refine am_cnd (am_bop (GR.opn hI15 ho 77)) ⟨rfl, fun _ => ?_⟩
  refine And.intro ⟨rfl, hI15.cnt h0 rfl rfl⟩ ?_
  have hI16 := hI15.put (n := 15) (t := 77) (f := 23) rfl rfl
  show am_J Γ mX12_init Q (d + 2) 37 514377 132 [some (vR 12 0)] [] I Lg R (up3 (am_newG G15 77).1 12 0 23 true, (am_newG G15 77).2)
  revert hI16
  generalize ((up3 (am_newG G15 77).1 12 0 23 true, (am_newG G15 77).2) : GG) = G16
  intro hI16
  clear hI15
  refine am_goN vX12_init 4 ?_
  refine am_cnd (am_bop (GR.opn hI16 ho 78)) ⟨rfl, fun _ => ?_⟩
  refine And.intro ⟨rfl, hI16.cnt h0 rfl rfl⟩ ?_
  have hI17 := hI16.put (n := 16) (t := 78) (f := 24) rfl rfl
  show am_J Γ mX12_init Q (d + 2) 36 514365 140 [some (vR 12 0)] [] I Lg R (up3 (am_newG G16 78).1 12 0 24 true, (am_newG G16 78).2)
  revert hI17
  generalize ((up3 (am_newG G16 78).1 12 0 24 true, (am_newG G16 78).2) : GG) = G17
  intro hI17
  clear hI16
  refine am_goN vX12_init 4 ?_
  refine am_cnd (am_bop (GR.opn hI17 ho 79)) ⟨rfl, fun _ => ?_⟩
  refine And.intro ⟨rfl, hI17.cnt h0 rfl rfl⟩ ?_
  have hI18 := hI17.put (n := 17) (t := 79) (f := 29) rfl rfl
  show am_J Γ mX12_init Q (d + 2) 35 514353 148 [some (vR 12 0)] [] I Lg R (up3 (am_newG G17 79).1 12 0 29 true, (am_newG G17 79).2)
  revert hI18
  generalize ((up3 (am_newG G17 79).1 12 0 29 true, (am_newG G17 79).2) : GG) = G18
  intro hI18
  clear hI17
  refine am_goN vX12_init 4 ?_
  refine am_cnd (am_bop (GR.opn hI18 ho 80)) ⟨rfl, fun _ => ?_⟩
  refine And.intro ⟨rfl, hI18.cnt h0 rfl rfl⟩ ?_
  have hI19 := hI18.put (n := 18) (t := 80) (f := 30) rfl rfl
  show am_J Γ mX12_init Q (d + 2) 34 514341 156 [some (vR 12 0)] [] I Lg R (up3 (am_newG G18 80).1 12 0 30 true, (am_newG G18 80).2)
  revert hI19
  generalize ((up3 (am_newG G18 80).1 12 0 30 true, (am_newG G18 80).2) : GG) = G19
  intro hI19
  clear hI18
  refine am_goN vX12_init 4 ?_
  refine am_cnd (am_bop (GR.opn hI19 ho 81)) ⟨rfl, fun _ => ?_⟩
  refine And.intro ⟨rfl, hI19.cnt h0 rfl rfl⟩ ?_
  have hI20 := hI19.put (n := 19) (t := 81) (f := 31) rfl rfl
  show am_J Γ mX12_init Q (d + 2) 33 514329 164 [some (vR 12 0)] [] I Lg R (up3 (am_newG G19 81).1 12 0 31 true, (am_newG G19 81).2)
  revert hI20
  generalize ((up3 (am_newG G19 81).1 12 0 31 true, (am_newG G19 81).2) : GG) = G20
  intro hI20
  clear hI19
  refine am_goN vX12_init 4 ?_
  refine am_cnd (am_bop (GR.opn hI20 ho 82)) ⟨rfl, fun _ => ?_⟩
  refine And.intro ⟨rfl, hI20.cnt h0 rfl rfl⟩ ?_
  have hI21 := hI20.put (n := 20) (t := 82) (f := 32) rfl rfl
  show am_J Γ mX12_init Q (d + 2) 32 514317 172 [some (vR 12 0)] [] I Lg R (up3 (am_newG G20 82).1 12 0 32 true, (am_newG G20 82).2)
  revert hI21
  generalize ((up3 (am_newG G20 82).1 12 0 32 true, (am_newG G20 82).2) : GG) = G21
  intro hI21
  clear hI20
  refine am_goN vX12_init 4 ?_
  refine am_cnd (am_bop (GR.opn hI21 ho 83)) ⟨rfl, fun _ => ?_⟩
  refine And.intro ⟨rfl, hI21.cnt h0 rfl rfl⟩ ?_
  have hI22 := hI21.put (n := 21) (t := 83) (f := 33) rfl rfl
  show am_J Γ mX12_init Q (d + 2) 31 514313 179 [some (vR 12 0)] [] I Lg R (up3 (am_newG G21 83).1 12 0 33 true, (am_newG G21 83).2)
  revert hI22
  generalize ((up3 (am_newG G21 83).1 12 0 33 true, (am_newG G21 83).2) : GG) = G22
  intro hI22
  clear hI21
  refine am_goN vX12_init 4 ?_
  refine am_cnd (am_bop (GR.opn hI22 ho 84)) ⟨rfl, fun _ => ?_⟩
  refine And.intro ⟨rfl, hI22.cnt h0 rfl rfl⟩ ?_
  have hI23 := hI22.put (n := 22) (t := 84) (f := 44) rfl rfl
  show am_J Γ mX12_init Q (d + 2) 30 514299 187 [some (vR 12 0)] [] I Lg R (up3 (am_newG G22 84).1 12 0 44 true, (am_newG G22 84).2)
  revert hI23
  generalize ((up3 (am_newG G22 84).1 12 0 44 true, (am_newG G22 84).2) : GG) = G23
  intro hI23
  clear hI22
  refine am_goN vX12_init 4 ?_
  refine am_cnd (am_bop (GR.opn hI23 ho 85)) ⟨rfl, fun _ => ?_⟩
  refine And.intro ⟨rfl, hI23.cnt h0 rfl rfl⟩ ?_
  have hI24 := hI23.put (n := 23) (t := 85) (f := 45) rfl rfl
  show am_J Γ mX12_init Q (d + 2) 29 513963 196 [some (vR 12 0)] [] I Lg R (up3 (am_newG G23 85).1 12 0 45 true, (am_newG G23 85).2)
  revert hI24
  generalize ((up3 (am_newG G23 85).1 12 0 45 true, (am_newG G23 85).2) : GG) = G24
  intro hI24
  clear hI23
  refine am_goN vX12_init 4 ?_
  refine am_cnd (am_bop (GR.opn hI24 ho 86)) ⟨rfl, fun _ => ?_⟩
  refine And.intro ⟨rfl, hI24.cnt h0 rfl rfl⟩ ?_
  have hI25 := hI24.put (n := 24) (t := 86) (f := 46) rfl rfl
  show am_J Γ mX12_init Q (d + 2) 28 513627 205 [some (vR 12 0)] [] I Lg R (up3 (am_newG G24 86).1 12 0 46 true, (am_newG G24 86).2)
  revert hI25
  generalize ((up3 (am_newG G24 86).1 12 0 46 true, (am_newG G24 86).2) : GG) = G25
  intro hI25
  clear hI24
  refine am_goN vX12_init 4 ?_
  refine am_cnd (am_bop (GR.opn hI25 ho 87)) ⟨rfl, fun _ => ?_⟩
  refine And.intro ⟨rfl, hI25.cnt h0 rfl rfl⟩ ?_
  have hI26 := hI25.put (n := 25) (t := 87) (f := 47) rfl rfl
  show am_J Γ mX12_init Q (d + 2) 27 513291 214 [some (vR 12 0)] [] I Lg R (up3 (am_newG G25 87).1 12 0 47 true, (am_newG G25 87).2)
  revert hI26
  generalize ((up3 (am_newG G25 87).1 12 0 47 true, (am_newG G25 87).2) : GG) = G26
  intro hI26
  clear hI25
  refine am_goN vX12_init 4 ?_
  refine am_cnd (am_bop (GR.opn hI26 ho 88)) ⟨rfl, fun _ => ?_⟩
  refine And.intro ⟨rfl, hI26.cnt h0 rfl rfl⟩ ?_
  have hI27 := hI26.put (n := 26) (t := 88) (f := 48) rfl rfl
  show am_J Γ mX12_init Q (d + 2) 26 513277 222 [some (vR 12 0)] [] I Lg R (up3 (am_newG G26 88).1 12 0 48 true, (am_newG G26 88).2)
  revert hI27
  generalize ((up3 (am_newG G26 88).1 12 0 48 true, (am_newG G26 88).2) : GG) = G27
  intro hI27
  clear hI26
  refine am_goN vX12_init 4 ?_
  refine am_cnd (am_bop (GR.opn hI27 ho 89)) ⟨rfl, fun _ => ?_⟩
  refine And.intro ⟨rfl, hI27.cnt h0 rfl rfl⟩ ?_
  have hI28 := hI27.put (n := 27) (t := 89) (f := 49) rfl rfl
  show am_J Γ mX12_init Q (d + 2) 25 513269 230 [some (vR 12 0)] [] I Lg R (up3 (am_newG G27 89).1 12 0 49 true, (am_newG G27 89).2)
  revert hI28
  generalize ((up3 (am_newG G27 89).1 12 0 49 true, (am_newG G27 89).2) : GG) = G28
  intro hI28
  clear hI27
  refine am_goN vX12_init 4 ?_
  refine am_cnd (am_bop (GR.opn hI28 ho 90)) ⟨rfl, fun _ => ?_⟩
  refine And.intro ⟨rfl, hI28.cnt h0 rfl rfl⟩ ?_
  have hI29 := hI28.put (n := 28) (t := 90) (f := 50) rfl rfl
  show am_J Γ mX12_init Q (d + 2) 24 513263 238 [some (vR 12 0)] [] I Lg R (up3 (am_newG G28 90).1 12 0 50 true, (am_newG G28 90).2)
  revert hI29
  generalize ((up3 (am_newG G28 90).1 12 0 50 true, (am_newG G28 90).2) : GG) = G29
  intro hI29
  clear hI28
  refine am_goN vX12_init 4 ?_
  refine am_cnd (am_bop (GR.opn hI29 ho 91)) ⟨rfl, fun _ => ?_⟩
  refine And.intro ⟨rfl, hI29.cnt h0 rfl rfl⟩ ?_
  have hI30 := hI29.put (n := 29) (t := 91) (f := 51) rfl rfl
  show am_J Γ mX12_init Q (d + 2) 23 513257 246 [some (vR 12 0)] [] I Lg R (up3 (am_newG G29 91).1 12 0 51 true, (am_newG G29 91).2)
  revert hI30
  generalize ((up3 (am_newG G29 91).1 12 0 51 true, (am_newG G29 91).2) : GG) = G30
  intro hI30
  clear hI29
  refine am_goN vX12_init 4 ?_
  refine am_cnd (am_bop (GR.opn hI30 ho 92)) ⟨rfl, fun _ => ?_⟩
  refine And.intro ⟨rfl, hI30.cnt h0 rfl rfl⟩ ?_
  have hI31 := hI30.put (n := 30) (t := 92) (f := 56) rfl rfl
  show am_J Γ mX12_init Q (d + 2) 22 513233 254 [some (vR 12 0)] [] I Lg R (up3 (am_newG G30 92).1 12 0 56 true, (am_newG G30 92).2)
  revert hI31
  generalize ((up3 (am_newG G30 92).1 12 0 56 true, (am_newG G30 92).2) : GG) = G31
  intro hI31
  clear hI30
  refine am_goN vX12_init 4 ?_
  refine am_cnd (am_bop (GR.opn hI31 ho 93)) ⟨rfl, fun _ => ?_⟩
  refine And.intro ⟨rfl, hI31.cnt h0 rfl rfl⟩ ?_
  have hI32 := hI31.put (n := 31) (t := 93) (f := 57) rfl rfl
  show am_J Γ mX12_init Q (d + 2) 21 513209 262 [some (vR 12 0)] [] I Lg R (up3 (am_newG G31 93).1 12 0 57 true, (am_newG G31 93).2)
  revert hI32
  generalize ((up3 (am_newG G31 93).1 12 0 57 true, (am_newG G31 93).2) : GG) = G32
  intro hI32
  clear hI31
  refine am_goN vX12_init 4 ?_
  refine am_cnd (am_bop (GR.opn hI32 ho 94)) ⟨rfl, fun _ => ?_⟩
  refine And.intro ⟨rfl, hI32.cnt h0 rfl rfl⟩ ?_
  have hI33 := hI32.put (n := 32) (t := 94) (f := 58) rfl rfl
  show am_J Γ mX12_init Q (d + 2) 20 513185 270 [some (vR 12 0)] [] I Lg R (up3 (am_newG G32 94).1 12 0 58 true, (am_newG G32 94).2)
  revert hI33
  generalize ((up3 (am_newG G32 94).1 12 0 58 true, (am_newG G32 94).2) : GG) = G33
  intro hI33
  clear hI32
  refine am_goN vX12_init 4 ?_
  refine am_cnd (am_bop (GR.opn hI33 ho 95)) ⟨rfl, fun _ => ?_⟩
  refine And.intro ⟨rfl, hI33.cnt h0 rfl rfl⟩ ?_
  have hI34 := hI33.put (n := 33) (t := 95) (f := 59) rfl rfl
  show am_J Γ mX12_init Q (d + 2) 19 513161 278 [some (vR 12 0)] [] I Lg R (up3 (am_newG G33 95).1 12 0 59 true, (am_newG G33 95).2)
  revert hI34
  generalize ((up3 (am_newG G33 95).1 12 0 59 true, (am_newG G33 95).2) : GG) = G34
  intro hI34
  clear hI33
  refine am_goN vX12_init 4 ?_
  refine am_cnd (am_bop (GR.opn hI34 ho 96)) ⟨rfl, fun _ => ?_⟩
  refine And.intro ⟨rfl, hI34.cnt h0 rfl rfl⟩ ?_
  have hI35 := hI34.put (n := 34) (t := 96) (f := 62) rfl rfl
  show am_J Γ mX12_init Q (d + 2) 18 512861 287 [some (vR 12 0)] [] I Lg R (up3 (am_newG G34 96).1 12 0 62 true, (am_newG G34 96).2)
  revert hI35
  generalize ((up3 (am_newG G34 96).1 12 0 62 true, (am_newG G34 96).2) : GG) = G35
  intro hI35
  clear hI34
  refine am_goN vX12_init 4 ?_
  refine am_cnd (am_bop (GR.opn hI35 ho 97)) ⟨rfl, fun _ => ?_⟩
  refine And.intro ⟨rfl, hI35.cnt h0 rfl rfl⟩ ?_
  have hI36 := hI35.put (n := 35) (t := 97) (f := 63) rfl rfl
  show am_J Γ mX12_init Q (d + 2) 17 512561 296 [some (vR 12 0)] [] I Lg R (up3 (am_newG G35 97).1 12 0 63 true, (am_newG G35 97).2)
  revert hI36
  generalize ((up3 (am_newG G35 97).1 12 0 63 true, (am_newG G35 97).2) : GG) = G36
  intro hI36
  clear hI35
  refine am_goN vX12_init 4 ?_
  refine am_cnd (am_bop (GR.opn hI36 ho 98)) ⟨rfl, fun _ => ?_⟩
  refine And.intro ⟨rfl, hI36.cnt h0 rfl rfl⟩ ?_
  have hI37 := hI36.put (n := 36) (t := 98) (f := 64) rfl rfl
  show am_J Γ mX12_init Q (d + 2) 16 512261 305 [some (vR 12 0)] [] I Lg R (up3 (am_newG G36 98).1 12 0 64 true, (am_newG G36 98).2)
  revert hI37
  generalize ((up3 (am_newG G36 98).1 12 0 64 true, (am_newG G36 98).2) : GG) = G37
  intro hI37
  clear hI36
  refine am_goN vX12_init 4 ?_
  refine am_cnd (am_bop (GR.opn hI37 ho 99)) ⟨rfl, fun _ => ?_⟩
  refine And.intro ⟨rfl, hI37.cnt h0 rfl rfl⟩ ?_
  have hI38 := hI37.put (n := 37) (t := 99) (f := 65) rfl rfl
  show am_J Γ mX12_init Q (d + 2) 15 512237 313 [some (vR 12 0)] [] I Lg R (up3 (am_newG G37 99).1 12 0 65 true, (am_newG G37 99).2)
  revert hI38
  generalize ((up3 (am_newG G37 99).1 12 0 65 true, (am_newG G37 99).2) : GG) = G38
  intro hI38
  clear hI37
  refine am_goN vX12_init 4 ?_
  refine am_cnd (am_bop (GR.opn hI38 ho 100)) ⟨rfl, fun _ => ?_⟩
  refine And.intro ⟨rfl, hI38.cnt h0 rfl rfl⟩ ?_
  have hI39 := hI38.put (n := 38) (t := 100) (f := 66) rfl rfl
  show am_J Γ mX12_init Q (d + 2) 14 512213 321 [some (vR 12 0)] [] I Lg R (up3 (am_newG G38 100).1 12 0 66 true, (am_newG G38 100).2)
  revert hI39
  generalize ((up3 (am_newG G38 100).1 12 0 66 true, (am_newG G38 100).2) : GG) = G39
  intro hI39
  clear hI38
  refine am_goN vX12_init 4 ?_
  refine am_cnd (am_bop (GR.opn hI39 ho 101)) ⟨rfl, fun _ => ?_⟩
  refine And.intro ⟨rfl, hI39.cnt h0 rfl rfl⟩ ?_
  have hI40 := hI39.put (n := 39) (t := 101) (f := 67) rfl rfl
  show am_J Γ mX12_init Q (d + 2) 13 512189 329 [some (vR 12 0)] [] I Lg R (up3 (am_newG G39 101).1 12 0 67 true, (am_newG G39 101).2)
  revert hI40
  generalize ((up3 (am_newG G39 101).1 12 0 67 true, (am_newG G39 101).2) : GG) = G40
  intro hI40
  clear hI39
  refine am_goN vX12_init 4 ?_
  refine am_cnd (am_bop (GR.opn hI40 ho 102)) ⟨rfl, fun _ => ?_⟩
  refine And.intro ⟨rfl, hI40.cnt h0 rfl rfl⟩ ?_
  have hI41 := hI40.put (n := 40) (t := 102) (f := 68) rfl rfl
  show am_J Γ mX12_init Q (d + 2) 12 512165 337 [some (vR 12 0)] [] I Lg R (up3 (am_newG G40 102).1 12 0 68 true, (am_newG G40 102).2)
  revert hI41
  generalize ((up3 (am_newG G40 102).1 12 0 68 true, (am_newG G40 102).2) : GG) = G41
  intro hI41
  clear hI40
  refine am_goN vX12_init 4 ?_
  refine am_cnd (am_bop (GR.opn hI41 ho 103)) ⟨rfl, fun _ => ?_⟩
  refine And.intro ⟨rfl, hI41.cnt h0 rfl rfl⟩ ?_
  have hI42 := hI41.put (n := 41) (t := 103) (f := 69) rfl rfl
  show am_J Γ mX12_init Q (d + 2) 11 512141 345 [some (vR 12 0)] [] I Lg R (up3 (am_newG G41 103).1 12 0 69 true, (am_newG G41 103).2)
  revert hI42
  generalize ((up3 (am_newG G41 103).1 12 0 69 true, (am_newG G41 103).2) : GG) = G42
  intro hI42
  clear hI41
  refine am_goN vX12_init 4 ?_
  refine am_cnd (am_bop (GR.opn hI42 ho 104)) ⟨rfl, fun _ => ?_⟩
  refine And.intro ⟨rfl, hI42.cnt h0 rfl rfl⟩ ?_
  have hI43 := hI42.put (n := 42) (t := 104) (f := 70) rfl rfl
  show am_J Γ mX12_init Q (d + 2) 10 512117 353 [some (vR 12 0)] [] I Lg R (up3 (am_newG G42 104).1 12 0 70 true, (am_newG G42 104).2)
  revert hI43
  generalize ((up3 (am_newG G42 104).1 12 0 70 true, (am_newG G42 104).2) : GG) = G43
  intro hI43
  clear hI42
  refine am_goN vX12_init 4 ?_
  refine am_cnd (am_bop (GR.opn hI43 ho 105)) ⟨rfl, fun _ => ?_⟩
  refine And.intro ⟨rfl, hI43.cnt h0 rfl rfl⟩ ?_
  have hI44 := hI43.put (n := 43) (t := 105) (f := 71) rfl rfl
  show am_J Γ mX12_init Q (d + 2) 9 512113 360 [some (vR 12 0)] [] I Lg R (up3 (am_newG G43 105).1 12 0 71 true, (am_newG G43 105).2)
  revert hI44
  generalize ((up3 (am_newG G43 105).1 12 0 71 true, (am_newG G43 105).2) : GG) = G44
  intro hI44
  clear hI43
  refine am_goN vX12_init 4 ?_
  refine am_cnd (am_bop (GR.opn hI44 ho 106)) ⟨rfl, fun _ => ?_⟩
  refine And.intro ⟨rfl, hI44.cnt h0 rfl rfl⟩ ?_
  have hI45 := hI44.put (n := 44) (t := 106) (f := 78) rfl rfl
  show am_J Γ mX12_init Q (d + 2) 8 238 368 [some (vR 12 0)] [] I Lg R (up3 (am_newG G44 106).1 12 0 78 true, (am_newG G44 106).2)
  revert hI45
  generalize ((up3 (am_newG G44 106).1 12 0 78 true, (am_newG G44 106).2) : GG) = G45
  intro hI45
  clear hI44
  refine am_goN vX12_init 4 ?_
  refine am_cnd (am_bop (GR.opn hI45 ho 107)) ⟨rfl, fun _ => ?_⟩
  refine And.intro ⟨rfl, hI45.cnt h0 rfl rfl⟩ ?_
  have hI46 := hI45.put (n := 45) (t := 107) (f := 79) rfl rfl
  show am_J Γ mX12_init Q (d + 2) 7 222 376 [some (vR 12 0)] [] I Lg R (up3 (am_newG G45 107).1 12 0 79 true, (am_newG G45 107).2)
  revert hI46
  generalize ((up3 (am_newG G45 107).1 12 0 79 true, (am_newG G45 107).2) : GG) = G46
  intro hI46
  clear hI45
  refine am_goN vX12_init 4 ?_
  refine am_cnd (am_bop (GR.opn hI46 ho 108)) ⟨rfl, fun _ => ?_⟩
  refine And.intro ⟨rfl, hI46.cnt h0 rfl rfl⟩ ?_
  have hI47 := hI46.put (n := 46) (t := 108) (f := 80) rfl rfl
  show am_J Γ mX12_init Q (d + 2) 6 217 383 [some (vR 12 0)] [] I Lg R (up3 (am_newG G46 108).1 12 0 80 true, (am_newG G46 108).2)
  revert hI47
  generalize ((up3 (am_newG G46 108).1 12 0 80 true, (am_newG G46 108).2) : GG) = G47
  intro hI47
  clear hI46
  refine am_goN vX12_init 4 ?_
  refine am_cnd (am_bop (GR.opn hI47 ho 109)) ⟨rfl, fun _ => ?_⟩
  refine And.intro ⟨rfl, hI47.cnt h0 rfl rfl⟩ ?_
  have hI48 := hI47.put (n := 47) (t := 109) (f := 81) rfl rfl
  show am_J Γ mX12_init Q (d + 2) 5 213 390 [some (vR 12 0)] [] I Lg R (up3 (am_newG G47 109).1 12 0 81 true, (am_newG G47 109).2)
  revert hI48
  generalize ((up3 (am_newG G47 109).1 12 0 81 true, (am_newG G47 109).2) : GG) = G48
  intro hI48
  clear hI47
  refine am_goN vX12_init 4 ?_
  refine am_cnd (am_bop (GR.opn hI48 ho 110)) ⟨rfl, fun _ => ?_⟩
  refine And.intro ⟨rfl, hI48.cnt h0 rfl rfl⟩ ?_
  have hI49 := hI48.put (n := 48) (t := 110) (f := 82) rfl rfl
  show am_J Γ mX12_init Q (d + 2) 4 63 399 [some (vR 12 0)] [] I Lg R (up3 (am_newG G48 110).1 12 0 82 true, (am_newG G48 110).2)
  revert hI49
  generalize ((up3 (am_newG G48 110).1 12 0 82 true, (am_newG G48 110).2) : GG) = G49
  intro hI49
  clear hI48
  refine am_goN vX12_init 4 ?_
  refine am_cnd (am_bop (GR.opn hI49 ho 111)) ⟨rfl, fun _ => ?_⟩
  refine And.intro ⟨rfl, hI49.cnt h0 rfl rfl⟩ ?_
  have hI50 := hI49.put (n := 49) (t := 111) (f := 83) rfl rfl
  show am_J Γ mX12_init Q (d + 2) 3 38 407 [some (vR 12 0)] [] I Lg R (up3 (am_newG G49 111).1 12 0 83 true, (am_newG G49 111).2)
  revert hI50
  generalize ((up3 (am_newG G49 111).1 12 0 83 true, (am_newG G49 111).2) : GG) = G50
  intro hI50
  clear hI49
  refine am_goN vX12_init 4 ?_
  refine am_cnd (am_bop (GR.opn hI50 ho 112)) ⟨rfl, fun _ => ?_⟩
  refine And.intro ⟨rfl, hI50.cnt h0 rfl rfl⟩ ?_
  have hI51 := hI50.put (n := 50) (t := 112) (f := 84) rfl rfl
  show am_J Γ mX12_init Q (d + 2) 2 14 415 [some (vR 12 0)] [] I Lg R (up3 (am_newG G50 112).1 12 0 84 true, (am_newG G50 112).2)
  revert hI51
  generalize ((up3 (am_newG G50 112).1 12 0 84 true, (am_newG G50 112).2) : GG) = G51
  intro hI51
  clear hI50
  refine am_goN vX12_init 4 ?_
  refine am_cnd (am_bop (GR.opn hI51 ho 113)) ⟨rfl, fun _ => ?_⟩
  refine And.intro ⟨rfl, hI51.cnt h0 rfl rfl⟩ ?_
  have hI52 := hI51.put (n := 51) (t := 113) (f := 85) rfl rfl
  show am_J Γ mX12_init Q (d + 2) 1 4 423 [some (vR 12 0)] [] I Lg R (up3 (am_newG G51 113).1 12 0 85 true, (am_newG G51 113).2)
  revert hI52
  generalize ((up3 (am_newG G51 113).1 12 0 85 true, (am_newG G51 113).2) : GG) = G52
  intro hI52
  clear hI51
  refine am_goN vX12_init 4 ?_
  refine am_cnd (am_bop (GR.opn hI52 ho 114)) ⟨rfl, fun _ => ?_⟩
  refine And.intro ⟨rfl, hI52.cnt h0 rfl rfl⟩ ?_
  have hI53 := hI52.put (n := 52) (t := 114) (f := 86) rfl rfl
  show am_J Γ mX12_init Q (d + 2) 0 0 430 [some (vR 12 0)] [] I Lg R (up3 (am_newG G52 114).1 12 0 86 true, (am_newG G52 114).2)
  revert hI53
  generalize ((up3 (am_newG G52 114).1 12 0 86 true, (am_newG G52 114).2) : GG) = G53
  intro hI53
  clear hI52
  refine am_goN vX12_init 1 ?_
  exact h G53 hI53

/-! made in the reference: one cell worked out. -/
section MWORK2
variable {Γ : AMG} {Q : QQ} {d : Nat} {I : II} {Lg : LJ} {R : RR} {gc : Nat → Nat} {ml : List MC} {es : List EV} {mn : List Int}
/-- what the table's methods ask of the state -/
def WTab (I : II) (ml : List MC) (es : List EV) (mn : List Int) : Prop := MMAt I ml ∧ MPAt I es ∧ MMenAt I mn ∧ BinAt I ∧ OffAt I mn.length
def WPre (ml : List MC) (es : List EV) (mn : List Int) : Prop := MCsok ml ∧ EVsok ml es ∧ EVsok2 ml es ∧ EVsrt es ∧ MNsok mn
theorem WPre.pk (h : WPre ml es mn) : mpok mn.length es.length (mwt ml es) (mmy ml es mn) := mpok_of h.2.1 h.2.2.1 h.2.2.2.1
theorem mwt_at {e : Nat} (h : e < es.length) : mwt ml es e = ewt ml (evD es e) := if_pos h
set_option maxRecDepth 100000 in
theorem s_workOut {e idle k : Nat} {x1 x2 x3 : Int32} {s : Nat → Nat} (hP : WPre ml es mn) (hW : WTab I ml es mn) (he : e < es.length) (hid : idle < 2 ^ mn.length) (hk : k + bits idle = mn.length) (hx1 : x1 = zI e) (hx2 : x2 = zI idle) (hx3 : x3 = zI k) (hs : RA I 170 k (fun j => (s j : Int))) (hinc : incr s k) (hlt : ∀ j, j < k → s j < e)
    (hT : PT mn.length es.length (mwt ml es) (mmy ml es mn) (fun j => I 168 0 j) (e + 1) (2 ^ mn.length) 0)
    (h : ∀ (I' : II) (x : Int32), I' = up3 I 168 0 (20475 * e + (off mn.length idle + rks s k)) x → (∀ S, stok mn.length e S → Rep mn.length S idle s k → x = zI (mV mn.length (mwt ml es) (mmy ml es mn) (es.length - e) e S)) → Q none I' Lg R (GM gc)) :
    am_Sp Γ (d + 2) 0 0 mX12_workOut [vR 12 0, vI x1, vI x2, vI x3] I Lg R (GM gc) Q := by
  have hpk := hP.pk
  obtain ⟨hl, hes, hes2, hsr, hmn⟩ := hP
  obtain ⟨hm, hp, hM, hb, ho⟩ := hW
  have h24 := hes.1
  have h4 := hmn.1
  have hpow : ∀ n : Nat, n < 5 → 2 ^ n ≤ 16 := by decide +kernel
  have h16 := hpow mn.length (by omega)
  have h1t : x1.toInt = e := by rw [hx1, zI_toInt (by omega) (by omega)]
  have h2t : x2.toInt = idle := by rw [hx2, zI_toInt (by omega) (by omega)]
  have h3t : x3.toInt = k := by rw [hx3, zI_toInt (by omega) (by omega)]
  have hge := evD_get he
  have hs24 : ∀ j, j < k → s j < 25 := fun j hj => by have := hlt j hj; omega
  have hx1s : x1 + zI 1 = zI ((e + 1 : Nat) : Int) := by rw [hx1, zI_add]; congr 1
  have cA := cell_in hinc hlt hk hid (show e ≤ 24 by omega) h4
  have ixt : ∀ a b : Nat, a ≤ 24 → b < 20475 → (zI ((20475 * a + b : Nat) : Int)).toInt = ((20475 * a + b : Nat) : Int) := fun a b ha hb => zI_toInt (by omega) (by omega)
  -- the cell is written
  have fin : ∀ (x4 x5 : Int32) (l6 : Option AV), BST mn.length es.length (mwt ml es) (mmy ml es mn) e idle s k (fun S m => mn.length ≤ S m ∨ m < mn.length) x4 → am_J Γ mX12_workOut Q (d + 2) 0 0 169 [some (vR 12 0), some (vI x1), some (vI x2), some (vI x3), some (vI x4), some (vI x5), l6] [] I Lg R (GM gc) := by
    intro x4 x5 l6 hB
    refine am_goN vX12_workOut 20 ?_
    refine s_cellA (nm := mn.length) (stage := e) (idle := idle) (k := k) (s := s) h4 hb ho hid (by omega) hs hs24 hx1 hx2 hx3 rfl rfl ?_
    have ix := ixt e _ (by omega) cA
    refine And.intro ⟨by omega, by omega⟩ ?_
    refine fun y ey I' eI => ?_
    rw [ix, Int.toNat_natCast] at eI
    exact h I' y eI (fun S hS hr => by rw [ey]; exact hB.fin he (fun S m _ _ hm => Or.inr hm) hS hr)
  -- the idle men
  have men : ∀ (n m : Nat) (x4 x5 : Int32) (l6 : Option AV), m + n = mn.length → x5 = zI m → BST mn.length es.length (mwt ml es) (mmy ml es mn) e idle s k (fun S i => mn.length ≤ S i ∨ i < m) x4 → am_J Γ mX12_workOut Q (d + 2) 0 0 90 [some (vR 12 0), some (vI x1), some (vI x2), some (vI x3), some (vI x4), some (vI x5), l6] [] I Lg R (GM gc) := by
    intro n
    induction n with
    | zero =>
      intro m x4 x5 l6 hmn2 hx5 hB
      have em : m = mn.length := by omega
      subst em
      have h5t : x5.toInt = mn.length := by rw [hx5, zI_toInt (by omega) (by omega)]
      refine am_goN vX12_workOut 4 ?_
      refine And.intro (fun _ => ?_) (fun z => ?_)
      · exact fin x4 x5 l6 hB
      · rw [h5t, hM.1, zI_toInt (by omega) (by omega)] at z
        omega
    | succ n ih =>
      intro m x4 x5 l6 hmn2 hx5 hB
      have hmm : m < mn.length := by omega
      have h5t : x5.toInt = m := by rw [hx5, zI_toInt (by omega) (by omega)]
      have next : ∀ (x4 : Int32) (l6 : Option AV), BST mn.length es.length (mwt ml es) (mmy ml es mn) e idle s k (fun S i => mn.length ≤ S i ∨ i < m + 1) x4 → am_J Γ mX12_workOut Q (d + 2) 0 0 163 [some (vR 12 0), some (vI x1), some (vI x2), some (vI x3), some (vI x4), some (vI x5), l6] [] I Lg R (GM gc) := by
        intro x4 l6 hB
        refine am_goN vX12_workOut 5 ?_
        refine fun y ey => ?_
        exact ih (m + 1) x4 y l6 (by omega) (by rw [ey, hx5, zI_add]; congr 1) hB
      refine am_goN vX12_workOut 4 ?_
      refine And.intro (fun z => ?_) (fun _ => ?_)
      · rw [h5t, hM.1, zI_toInt (by omega) (by omega)] at z
        omega
      refine am_goN vX12_workOut 6 ?_
      have hbit : (x2 >>> (x5 &&& 31)) &&& zI 1 = zI ((idle.testBit m).toNat : Nat) := by rw [hx2, hx5, gb_s (by omega), gb_z (by omega)]
      refine And.intro (fun z => ?_) (fun z => ?_)
      · have z : ((x2 >>> (x5 &&& 31)) &&& zI 1).toInt = 0 := z
        rw [hbit] at z
        refine next x4 l6 (hB.ext (fun S i hS hr hi hp hy => ?_))
        rcases hp with g | g
        · exact Or.inl g
        · by_cases g2 : i = m
          · rcases hr.2.1 i hi with ⟨_, g3⟩ | ⟨_, j, _, g3⟩
            · rw [g2] at g3
              rw [g3] at z
              exact absurd z (by decide)
            · exact Or.inl (by omega)
          · exact Or.inr (by omega)
      have z : ((x2 >>> (x5 &&& 31)) &&& zI 1).toInt ≠ 0 := z
      rw [hbit] at z
      have hmb : idle.testBit m = true := by
        cases hc : idle.testBit m with
        | true => rfl
        | false => rw [hc] at z; exact absurd rfl z
      refine am_goN vX12_workOut 5 ?_
      refine s_mayBegin hl hm hp hes hmn hM hmm he hx5 hx1 (fun hy => ?_) (fun hy => ?_)
      rotate_left
      · refine And.intro (fun z => absurd rfl z) (fun _ => ?_)
        refine am_goN vX12_workOut 1 ?_
        refine next x4 l6 (hB.ext (fun S i hS hr hi hp hy2 => ?_))
        rcases hp with g | g
        · exact Or.inl g
        · by_cases g2 : i = m
          · rcases hr.2.1 i hi with ⟨g3, _⟩ | ⟨_, j, _, g3⟩
            · rw [g3, g2, hy] at hy2
              cases hy2
            · exact Or.inl (by omega)
          · exact Or.inr (by omega)
      refine And.intro (fun _ => ?_) (fun z => ?_)
      rotate_left
      · rw [zI_toInt (by omega) (by omega)] at z
        omega
      obtain ⟨b1, b2, b3⟩ := mask_bits hid hmm hmb
      obtain ⟨i1, i2⟩ := hinc.go hlt
      have hk2 : k + 1 + bits (idle ^^^ 2 ^ m) = mn.length := by
        have h5 := btc_upd hmb b2 b3 12 (by omega)
        have h6 : k + btc idle 12 = mn.length := hk
        show k + 1 + btc (idle ^^^ 2 ^ m) 12 = mn.length
        omega
      have cC := cell_in i1 i2 hk2 b1 (show e + 1 ≤ 24 by omega) h4
      have hmask : x2 &&& ((zI 1 <<< (x5 &&& 31)) ^^^ zI (-1)) = zI ((idle ^^^ 2 ^ m : Nat) : Int) := by rw [hx2, hx5]; exact mask_go idle (by omega) m (by omega) hmb
      refine am_goN vX12_workOut 26 ?_
      refine s_mworth hl hm hp hes hx1 hge ?_
      refine s_cellC (nm := mn.length) (stage := e + 1) (idle := idle ^^^ 2 ^ m) (k := k) (e := e) (s := s) h4 hb ho b1 (by omega) hs hs24 hx1s hmask hx3 rfl hx1 (by omega) ?_
      have ix := ixt (e + 1) _ (by omega) cC
      refine And.intro ⟨by omega, by omega⟩ ?_
      rw [ix, Int.toNat_natCast]
      refine fun y6 ey6 => ?_
      obtain ⟨q1, q2⟩ := hB.cmp (P2 := fun S i => mn.length ≤ S i ∨ i < m + 1) (y := y6) hpk he (fun S hS hr => by
        obtain ⟨g1, g2⟩ := hr.go hS hmm hmb h4 b1 b2 b3
        refine ⟨m, hmm, by rw [g1]; exact hy, ?_, fun i hi hp => ?_⟩
        · have hTg := hT.get hS.up g2
          have hTg : I 168 0 (20475 * (e + 1) + (off mn.length (idle ^^^ 2 ^ m) + rks (updN s k e) (k + 1))) = zI (mV mn.length (mwt ml es) (mmy ml es mn) (es.length - (e + 1)) (e + 1) (upS S m (mn.length + e))) := hTg
          rw [ey6, hTg, zI_add, mwt_at he]
        · rcases hp with g | g
          · exact Or.inl (Or.inl g)
          · by_cases g3 : i = m
            · exact Or.inr g3
            · exact Or.inl (Or.inr (by omega)))
      refine And.intro (fun z => ?_) (fun z => ?_)
      · exact next x4 _ (q1 z)
      · refine am_goN vX12_workOut 2 ?_
        refine fun y4 ey4 => ?_
        rw [ey4]
        exact next y6 _ (q2 z)
  -- the men behind the set's events
  have pos : ∀ (n j : Nat) (x4 x5 : Int32) (l6 : Option AV), j + n = k → x5 = zI j → BST mn.length es.length (mwt ml es) (mmy ml es mn) e idle s k (fun S i => ∃ a, a < j ∧ S i = mn.length + s a) x4 → am_J Γ mX12_workOut Q (d + 2) 0 0 21 [some (vR 12 0), some (vI x1), some (vI x2), some (vI x3), some (vI x4), some (vI x5), l6] [] I Lg R (GM gc) := by
    intro n
    induction n with
    | zero =>
      intro j x4 x5 l6 hjn hx5 hB
      have ej : j = k := by omega
      have h5t : x5.toInt = k := by rw [hx5, zI_toInt (by omega) (by omega)]; omega
      refine am_goN vX12_workOut 3 ?_
      refine And.intro (fun _ => ?_) (fun z => ?_)
      · refine am_goN vX12_workOut 5 ?_
        refine fun y5 ey5 => ?_
        refine men mn.length 0 x4 y5 l6 (by omega) ey5 (hB.ext (fun S i hS hr hi hp hy => ?_))
        rcases hp with g | g
        · rcases hr.2.1 i hi with ⟨g2, _⟩ | ⟨_, a, g2, g3⟩
          · omega
          · exact ⟨a, by omega, g3⟩
        · omega
      · rw [h5t, h3t] at z
        omega
    | succ n ih =>
      intro j x4 x5 l6 hjn hx5 hB
      have hjk : j < k := by omega
      have h5t : x5.toInt = j := by rw [hx5, zI_toInt (by omega) (by omega)]
      have hsj := hlt j hjk
      have next : ∀ (x4 : Int32) (l6 : Option AV), BST mn.length es.length (mwt ml es) (mmy ml es mn) e idle s k (fun S i => ∃ a, a < j + 1 ∧ S i = mn.length + s a) x4 → am_J Γ mX12_workOut Q (d + 2) 0 0 81 [some (vR 12 0), some (vI x1), some (vI x2), some (vI x3), some (vI x4), some (vI x5), l6] [] I Lg R (GM gc) := by
        intro x4 l6 hB
        refine am_goN vX12_workOut 5 ?_
        refine fun y ey => ?_
        exact ih (j + 1) x4 y l6 (by omega) (by rw [ey, hx5, zI_add]; congr 1) hB
      refine am_goN vX12_workOut 3 ?_
      refine And.intro (fun z => ?_) (fun _ => ?_)
      · rw [h5t, h3t] at z
        omega
      refine am_goN vX12_workOut 8 ?_
      refine And.intro ⟨by omega, by omega⟩ ?_
      refine s_mayFollow (mn := mn) hl hm hp hes (show s j < es.length by omega) he (by rw [h5t, Int.toNat_natCast]; exact hs j hjk) hx1 (fun hy => ?_) (fun hy => ?_)
      rotate_left
      · refine And.intro (fun z => absurd rfl z) (fun _ => ?_)
        refine am_goN vX12_workOut 1 ?_
        refine next x4 l6 (hB.ext (fun S i hS hr hi hp hy2 => ?_))
        obtain ⟨a, g1, g2⟩ := hp
        by_cases g3 : a = j
        · rw [g2, g3, hy] at hy2
          cases hy2
        · exact ⟨a, by omega, g2⟩
      refine And.intro (fun _ => ?_) (fun z => ?_)
      rotate_left
      · rw [zI_toInt (by omega) (by omega)] at z
        omega
      obtain ⟨i1, i2⟩ := hinc.on hlt hjk
      have cB := cell_in i1 i2 hk hid (show e + 1 ≤ 24 by omega) h4
      refine am_goN vX12_workOut 20 ?_
      refine s_mworth hl hm hp hes hx1 hge ?_
      refine s_cellB (nm := mn.length) (stage := e + 1) (idle := idle) (k := k) (j := j) (e := e) (s := s) h4 hb ho hid (by omega) hs hs24 hx1s hx2 hx3 hx5 hjk hx1 (by omega) ?_
      have ix := ixt (e + 1) _ (by omega) cB
      refine And.intro ⟨by omega, by omega⟩ ?_
      rw [ix, Int.toNat_natCast]
      refine fun y6 ey6 => ?_
      obtain ⟨q1, q2⟩ := hB.cmp (P2 := fun S i => ∃ a, a < j + 1 ∧ S i = mn.length + s a) (y := y6) hpk he (fun S hS hr => by
        obtain ⟨m0, g1, g2⟩ := hr.2.2.1 j hjk
        refine ⟨m0, g1, by rw [g2]; exact hy, ?_, fun i hi hp => ?_⟩
        · have hTg := hT.get hS.up (hr.on hS hjk g1 g2)
          have hTg : I 168 0 (20475 * (e + 1) + (off mn.length idle + rks (updN (del s j) (k - 1) e) k)) = zI (mV mn.length (mwt ml es) (mmy ml es mn) (es.length - (e + 1)) (e + 1) (upS S m0 (mn.length + e))) := hTg
          rw [ey6, hTg, zI_add, mwt_at he]
        · obtain ⟨a, c1, c2⟩ := hp
          by_cases g3 : a = j
          · exact Or.inr (hS.2 i m0 hi g1 (by rw [c2, g3, g2]))
          · exact Or.inl ⟨a, by omega, c2⟩)
      refine And.intro (fun z => ?_) (fun z => ?_)
      · exact next x4 _ (q1 z)
      · refine am_goN vX12_workOut 2 ?_
        refine fun y4 ey4 => ?_
        rw [ey4]
        exact next y6 _ (q2 z)
  have cA1 := cell_in hinc (fun i hi => by have := hlt i hi; omega) hk hid (show e + 1 ≤ 24 by omega) h4
  refine am_runN vX12_workOut 30 _ rfl rfl rfl rfl ?_
  refine s_cellA (nm := mn.length) (stage := e + 1) (idle := idle) (k := k) (s := s) h4 hb ho hid (by omega) hs hs24 hx1s hx2 hx3 rfl rfl ?_
  have ix := ixt (e + 1) _ (by omega) cA1
  refine And.intro ⟨by omega, by omega⟩ ?_
  rw [ix, Int.toNat_natCast]
  refine fun y4 ey4 y5 ey5 => ?_
  refine pos k 0 y4 y5 _ (by omega) ey5 ((BST.init hpk he (fun S hS hr => ?_)).ext (fun S i _ _ _ hp _ => ?_))
  · rw [ey4]
    exact hT.get hS.sk hr
  · obtain ⟨a, g, _⟩ := hp
    exact absurd g (Nat.not_lt_zero _)
end MWORK2

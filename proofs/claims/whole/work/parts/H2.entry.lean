/-! The law from its entry. -/
def Gini : GG := (fun _ _ _ => false, fun _ => 0)
def Iini : II := fun _ _ _ => zI 0
def Lini : LJ := fun _ _ _ => 0
def Rini : RR := fun _ _ _ => none
theorem ti_start {I : II} {R : RR} (hz : Z9 I) (hd : ∀ j, j < 24 → I 91 0 j = zI (-1)) : TI I R 0 (fun _ => 0) [] (fun _ => []) [] [] [] [] 0 (zI 0, zI 0, zI 0, zI 0, zI 0) [] (fun _ => -1) false [] := by
  have z : ∀ v, z9v.elem v = false → ∀ i j, I v i j = zI 0 := hz
  refine ⟨⟨⟨⟨by omega, fun k => ⟨Int.le_refl 0, by show (0 : Int) ≤ 255; omega⟩⟩, ⟨by show 0 ≤ 16; omega, fun k x h => (by cases h)⟩, fun r hr => ⟨by show 0 ≤ 12; omega, fun p e h => (by cases h)⟩, by show 0 ≤ 12; omega⟩, ⟨⟨by show 0 ≤ 12; omega, fun k e h => (by cases h)⟩, fun k e h => (by cases h), by show 0 ≤ 4; omega, fun k x h => (by cases h)⟩, ⟨⟨by show 0 ≤ 24; omega, fun k e h => (by cases h)⟩, fun k e h => (by cases h), fun j k a b _ h => (by cases h)⟩, by show 0 ≤ 300; omega, by show 0 ≤ 4; omega⟩, ?_, ?_⟩
  · refine ⟨⟨⟨z _ rfl _ _, fun k h => by omega⟩, ⟨z _ rfl _ _, fun k x h => (by cases h)⟩, fun r hr => ⟨z _ rfl _ _, fun p e h => (by cases h)⟩, z _ rfl _ _, fun k e h => (by cases h)⟩, ⟨⟨z _ rfl _ _, fun k e h => (by cases h)⟩, ⟨z _ rfl _ _, fun k e h => (by cases h)⟩, ⟨z _ rfl _ _, by show 0 ≤ 24; omega, z _ rfl _ _, fun k e h => (by cases h)⟩, z _ rfl _ _⟩, ⟨z _ rfl _ _, z _ rfl _ _, z _ rfl _ _, z _ rfl _ _, z _ rfl _ _, z _ rfl _ _, by show 0 ≤ 300; omega, fun k e h => (by cases h)⟩, hd, ⟨z _ rfl _ _, fun k e h => (by cases h)⟩, [], fun j hj => ?_⟩
    rw [show ((([] : List Nat).getD j 0 : Nat) : Int) = 0 by simp]
    exact z _ rfl _ _
  · exact ⟨⟨⟨z _ rfl _ _, fun k h => by omega⟩, ⟨z _ rfl _ _, fun k x h => (by cases h), fun v _ => z _ rfl _ _⟩, ⟨fun r hr => ⟨z _ rfl _ _, fun g p e h => (by cases h)⟩, fun v => z _ rfl _ _⟩, z _ rfl _ _, fun k e h => (by cases h)⟩, ⟨⟨z _ rfl _ _, fun k e h => (by cases h)⟩, ⟨z _ rfl _ _, fun k e h => (by cases h)⟩, ⟨z _ rfl _ _, fun k e h => (by cases h)⟩, z _ rfl _ _⟩, ⟨z _ rfl _ _, z _ rfl _ _, z _ rfl _ _, z _ rfl _ _, z _ rfl _ _, z _ rfl _ _, by show 0 ≤ 300; omega, fun k e h => (by cases h)⟩, ⟨z _ rfl _ _, fun h => (by cases h), fun _ _ => rfl⟩, z _ rfl _ _, fun k e h => (by cases h)⟩
set_option maxRecDepth 100000 in
set_option maxHeartbeats 4000000 in
theorem w_entry {Γ : AMG} {Q : QQ} {d : Nat} (hm : WMade Γ) (hW : SWok Γ) (hK : KWok Γ) (hTK : am_TK Γ) (hN : am_NK Γ) (hs : am_scr Γ) (hL : Γ.scr.2.1 ≤ 3072) (hQ : ∀ (I : II) (Lg : LJ) (R : RR) (G : GG), Q (some (vI (zI 1))) I Lg R G) :
    am_J Γ mL_law Q (d + 30) 601024 7293034 0 [some (vR am_cScr 0), none, none, none, none, none, none] [] Iini Lini Rini Gini := by
  have hoi : Opn Gini := fun _ => rfl
  have hci : ∀ x, x ≠ 11 → Gini.2 x = 0 := fun _ _ => rfl
  have hI0 : GR Gini Gini (fun _ _ _ => False) (fun _ => 0) := GR.rf
  refine am_goN vL_law 20 ?_
  refine fun _ => ?_
  refine s_SLinit (d := d + 25) hN ((hI0.new 11).opn hoi) (fun x hx => ?_) (fun _ _ _ _ => rfl) (fun I1 G1 hz1 f1 hd1 g1 => ?_)
  · show up1 (fun _ => 0) 11 1 x = 0
    unfold up1
    rw [if_neg hx]
  have hA := (hI0.new 11).tr g1
  have hq : G1.2 12 = 0 := hA.cnq (q := 0) (hci 12 (by decide)) rfl
  refine am_cnd (am_bop (hA.opn hoi 12)) (fun _ => ?_)
  rw [hq]
  refine s_Mdinit (d := d + 27) ((hA.new 12).opn hoi) ((hA.new 12).cnx hci mdT 0 rfl) (fun G2 g2 => ?_)
  have hB := (hA.new 12).tr g2
  have hq2 : G2.2 116 = 0 := hB.cnq (q := 0) (hci 116 (by decide)) rfl
  refine am_cnd (am_bop (hB.opn hoi 116)) ⟨rfl, fun _ => ?_⟩
  rw [hq2]
  refine fun x4 e4 => ?_
  have hC := hB.new 116
  refine am_J.close (hC.opn hoi 1) (all_full (G0 := Gini) (hC.sub (fun c j k h => h) (fun _ => rfl)) (fun _ => rfl)) ?_
  subst e4
  exact w_loop hm hW hK hTK hs hL hQ 512 0 _ _ I1 Lini _ _ 0 (fun _ => 0) [] (fun _ => []) [] [] [] [] 0 _ [] (fun _ => -1) false [] none none (by omega) (by omega) (Nat.le_of_ble_eq_true rfl) (Nat.le_of_ble_eq_true rfl) (ti_start hz1 hd1)

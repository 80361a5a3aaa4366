/-! The two sides' states, tied to one. -/
def isM (v : Nat) : Bool := (Nat.ble 47 v && Nat.ble v 81) || (Nat.ble 125 v && Nat.ble v 176)
abbrev nM : Nat → Nat → Bool := fun v _ => !isM v
abbrev yM : Nat → Nat → Bool := fun v _ => isM v
theorem V0_nM {l : List Nat} (h : l.all (fun v => !isM v) = true) : ∀ v i, nM v i = false → V0 l v i = false := by
  intro v i hv
  unfold V0
  cases e : l.elem v with
  | false => rfl
  | true =>
    have h1 := List.all_eq_true.mp h v (List.elem_iff.mp e)
    rw [show (!isM v) = false from hv] at h1
    cases h1
theorem V0_yM {l : List Nat} (h : l.all isM = true) : ∀ v i, yM v i = false → V0 l v i = false := by
  intro v i hv
  unfold V0
  cases e : l.elem v with
  | false => rfl
  | true =>
    have h1 := List.all_eq_true.mp h v (List.elem_iff.mp e)
    rw [show isM v = false from hv] at h1
    cases h1
theorem V1_nM {l : List Nat} {p : Nat} (h : l.all (fun v => !isM v) = true) : ∀ v i, nM v i = false → V1 l p v i = false := by
  intro v i hv
  have h1 := V0_nM h v i hv
  unfold V0 at h1
  unfold V1
  rw [h1]
  rfl
def KnAt (I : II) (ks : KS) : Prop := I 19 0 0 = zI ks.length ∧ KAt I 102 103 104 0 ks
def MKnAt (I : II) (ks : KS) : Prop := I 58 0 0 = zI ks.length ∧ KAt I 139 140 141 0 ks
theorem KnAt.fr {I I' : II} {P : Nat → Nat → Bool} {ks : KS} (h : KnAt I ks) (hf : FrI P I I') (hP : ∀ v ∈ [19, 102, 103, 104], P v 0 = false) : KnAt I' ks :=
  ⟨by rw [hf _ _ (hP _ (by decide))]; exact h.1, h.2.fr (hf _ _ (hP _ (by decide))) (hf _ _ (hP _ (by decide))) (hf _ _ (hP _ (by decide)))⟩
theorem MKnAt.fr {I I' : II} {P : Nat → Nat → Bool} {ks : KS} (h : MKnAt I ks) (hf : FrI P I I') (hP : ∀ v ∈ [58, 139, 140, 141], P v 0 = false) : MKnAt I' ks :=
  ⟨by rw [hf _ _ (hP _ (by decide))]; exact h.1, h.2.fr (hf _ _ (hP _ (by decide))) (hf _ _ (hP _ (by decide))) (hf _ _ (hP _ (by decide)))⟩
theorem CMenAt.fr {I I' : II} {P : Nat → Nat → Bool} {mn : List Int} (h : CMenAt I mn) (hf : FrI P I I') (hP : ∀ v ∈ [16, 90], P v 0 = false) : CMenAt I' mn :=
  ⟨by rw [hf _ _ (hP _ (by decide))]; exact h.1, fun k x hk => by rw [hf _ _ (hP _ (by decide))]; exact h.2 k x hk⟩
theorem MMenAt.fr {I I' : II} {P : Nat → Nat → Bool} {mn : List Int} (h : MMenAt I mn) (hf : FrI P I I') (hP : ∀ v ∈ [60, 146], P v 0 = false) : MMenAt I' mn :=
  ⟨by rw [hf _ _ (hP _ (by decide))]; exact h.1, fun k x hk => by rw [hf _ _ (hP _ (by decide))]; exact h.2 k x hk⟩
theorem CDoAt.fr {I I' : II} {P : Nat → Nat → Bool} {dn : Nat → Int} (h : CDoAt I dn) (hf : FrI P I I') (hP : P 91 0 = false) : CDoAt I' dn := fun e he => by rw [hf _ _ hP]; exact h e he
theorem MDoAt.fr {I I' : II} {P : Nat → Nat → Bool} {n : Nat} {dn : Nat → Int} {made : Bool} (h : MDoAt I n dn made) (hf : FrI P I I') (hP : ∀ v ∈ [73, 157], P v 0 = false) : MDoAt I' n dn made :=
  ⟨by rw [hf _ _ (hP _ (by decide))]; exact h.1, fun hm e he => by rw [hf _ _ (hP _ (by decide))]; exact h.2.1 hm e he, h.2.2⟩
def CLdAt (I : II) (ld : List Int) : Prop := CLaAt I ld ∧ ∃ q, LaidAt I q
theorem CLdAt.fr {I I' : II} {P : Nat → Nat → Bool} {ld : List Int} (h : CLdAt I ld) (hf : FrI P I I') (hP : ∀ v ∈ [11, 89], P v 0 = false) : CLdAt I' ld := by
  obtain ⟨⟨h1, h2⟩, q, h3⟩ := h
  exact ⟨⟨by rw [hf _ _ (hP _ (by decide))]; exact h1, fun k x hk => by rw [hf _ _ (hP _ (by decide))]; exact h2 k x hk⟩, q, fun j hj => by rw [hf _ _ (hP _ (by decide))]; exact h3 j hj⟩
theorem MLaAt.fr {I I' : II} {P : Nat → Nat → Bool} {ld : List Int} (h : MLaAt I ld) (hf : FrI P I I') (hP : ∀ v ∈ [81, 176], P v 0 = false) : MLaAt I' ld :=
  ⟨by rw [hf _ _ (hP _ (by decide))]; exact h.1, fun k x hk => by rw [hf _ _ (hP _ (by decide))]; exact h.2 k x hk⟩
theorem CRunsAt.fr {I I' : II} {R : RR} {P : Nat → Nat → Bool} {rn : Nat → RUN} (h : CRunsAt I R rn) (hf : FrI P I I') (hP : ∀ v ∈ rvars, ∀ i, P v i = false) : CRunsAt I' R rn := fun r hr => (h r hr).fr hf hP
theorem MRunsAt.fr {I I' : II} {P : Nat → Nat → Bool} {rn : Nat → RUN} (h : MRunsAt I rn) (hf : FrI P I I') (hP : ∀ v ∈ 131 :: 135 :: mrv, P v 0 = false) : MRunsAt I' rn :=
  ⟨fun r hr => ⟨by rw [hf _ _ (hP _ (by decide))]; exact (h.1 r hr).1, fun g => ((h.1 r hr).2 g).fr hf (fun v hv => hP v (List.mem_cons_of_mem _ (List.mem_cons_of_mem _ hv)))⟩, fun v => by rw [hf _ _ (hP _ (by decide))]; exact h.2 v⟩
theorem rv_yM : ∀ v ∈ rvars, ∀ i, yM v i = false := fun v hv _ => (by decide : ∀ v ∈ rvars, isM v = false) v hv
/-- the class's state -/
def CS (I : II) (R : RR) (sz : Nat) (bs : Nat → Int) (bd : List BD) (rn : Nat → RUN) (ks : KS) (ml : List MC) (mn : List Int) (es : List EV) (ft : Int) (nt : NT) (nk : KS) (dn : Nat → Int) (ld : List Int) : Prop :=
  (TapeAt I sz bs ∧ StockAt I R bd ∧ CRunsAt I R rn ∧ KnAt I ks) ∧ (CMAt I ml ∧ CMenAt I mn ∧ PlanAt I 9 (es, false) ∧ I 37 0 0 = zI ft) ∧ CNtAt I nt nk ∧ CDoAt I dn ∧ CLdAt I ld
/-- the reference's state -/
def MS (I : II) (sz : Nat) (bs : Nat → Int) (bd : List BD) (rn : Nat → RUN) (ks : KS) (ml : List MC) (mn : List Int) (es : List EV) (ft : Int) (nt : NT) (nk : KS) (dn : Nat → Int) (made : Bool) (ld : List Int) : Prop :=
  (MTapeAt I sz bs ∧ MStockAt I bd ∧ MRunsAt I rn ∧ MKnAt I ks) ∧ (MMAt I ml ∧ MMenAt I mn ∧ MPAt I es ∧ I 66 0 0 = zI ft) ∧ MNtAt I nt nk ∧ MDoAt I es.length dn made ∧ MLaAt I ld
/-- what holds of the common state -/
def PI (sz : Nat) (bs : Nat → Int) (bd : List BD) (rn : Nat → RUN) (ks : KS) (ml : List MC) (mn : List Int) (es : List EV) (nk : KS) (ld : List Int) : Prop :=
  (BSsok sz bs ∧ BDsok bd ∧ RNSok rn ∧ ks.length ≤ 12) ∧ (MCsok ml ∧ HDok rn ml ∧ MNsok mn) ∧ (EVsok ml es ∧ EVsok2 ml es ∧ EVsrt es) ∧ nk.length ≤ 300 ∧ ld.length ≤ 4
theorem CS.frM {I I' : II} {R : RR} {sz : Nat} {bs : Nat → Int} {bd : List BD} {rn : Nat → RUN} {ks : KS} {ml : List MC} {mn : List Int} {es : List EV} {ft : Int} {nt : NT} {nk : KS} {dn : Nat → Int} {ld : List Int} (h : CS I R sz bs bd rn ks ml mn es ft nt nk dn ld) (f : FrI yM I I') : CS I' R sz bs bd rn ks ml mn es ft nt nk dn ld := by
  obtain ⟨⟨t, s, r, k⟩, ⟨m, n, p, ft⟩, nt, d, la⟩ := h
  exact ⟨⟨t.fr f rfl rfl, s.fr f rfl rv_yM, r.fr f rv_yM, k.fr f (by decide)⟩, ⟨m.fr f (by decide), n.fr f (by decide), p.fr f (by decide), by rw [f _ _ rfl]; exact ft⟩, nt.fr f (by decide), d.fr f rfl, la.fr f (by decide)⟩
theorem MS.frC {I I' : II} {sz : Nat} {bs : Nat → Int} {bd : List BD} {rn : Nat → RUN} {ks : KS} {ml : List MC} {mn : List Int} {es : List EV} {ft : Int} {nt : NT} {nk : KS} {dn : Nat → Int} {made : Bool} {ld : List Int} (h : MS I sz bs bd rn ks ml mn es ft nt nk dn made ld) (f : FrI nM I I') : MS I' sz bs bd rn ks ml mn es ft nt nk dn made ld := by
  obtain ⟨⟨t, s, r, k⟩, ⟨m, n, p, ft⟩, nt, d, la⟩ := h
  exact ⟨⟨t.fr f rfl rfl, s.fr f (by decide), r.fr f (by decide), k.fr f (by decide)⟩, ⟨m.fr f (by decide), n.fr f (by decide), p.fr f (by decide), by rw [f _ _ rfl]; exact ft⟩, nt.fr f (by decide), d.fr f (by decide), la.fr f (by decide)⟩

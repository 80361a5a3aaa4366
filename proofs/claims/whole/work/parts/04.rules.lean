/-! The rules of am_J: an instruction each. First those that touch locals and stack alone. -/
def am_clr : Option AV → Option AV
  | some (.inr (.inl _)) => none
  | o => o
def am_st : LL → Nat → Option AV → LL
  | [], _, _ => []
  | _ :: xs, 0, o => o :: xs
  | x :: xs, 1, o => am_clr x :: am_st xs 0 o
  | x :: xs, n + 2, o => x :: am_st xs (n + 1) o
theorem am_st_len : ∀ (L : LL) (i : Nat) (o : Option AV), (am_st L i o).length = L.length
  | [], _, _ => rfl
  | _ :: _, 0, _ => rfl
  | _ :: xs, 1, o => by simp [am_st, am_st_len xs 0 o]
  | _ :: xs, n + 2, o => by simp [am_st, am_st_len xs (n + 1) o]
theorem am_st_get : ∀ (L : LL) (i j : Nat) (o : Option AV), (am_st L i o)[j]? = if j = i ∧ i < L.length then some o else if j + 1 = i then (L[j]?).map am_clr else L[j]?
  | [], _, _, _ => by simp [am_st]
  | _ :: _, 0, 0, _ => by simp [am_st]
  | _ :: _, 0, j + 1, _ => by simp [am_st]
  | x :: xs, 1, 0, o => by simp [am_st]
  | x :: xs, 1, j + 1, o => by
    simp only [am_st, List.getElem?_cons_succ, am_st_get xs 0 j o, List.length_cons]
    by_cases h : j = 0 <;> simp [h]
  | x :: xs, n + 2, 0, o => by simp [am_st]
  | x :: xs, n + 2, j + 1, o => by
    simp only [am_st, List.getElem?_cons_succ, am_st_get xs (n + 1) j o, List.length_cons]
    by_cases h : j = n + 1
    · subst h
      simp
      split <;> split <;> first | rfl | omega
    · simp [h]
theorem am_clr_some {x : Option AV} {v : AV} (h : am_clr x = some v) : x = some v ∧ ∀ ρ, (am_con ρ v).category ≠ 2 := by
  match x, h with
  | some (.inl a), h => cases h; exact ⟨rfl, fun _ => by simp [am_con, Value.category]⟩
  | some (.inr (.inr none)), h => cases h; exact ⟨rfl, fun _ => by simp [am_con, Value.category]⟩
  | some (.inr (.inr (some (a, b)))), h => cases h; exact ⟨rfl, fun _ => by simp [am_con, Value.category]⟩
def am_as (ρ : Nat → Nat → Nat) (L : LL) : List (Nat × Value) := (List.range L.length).filterMap (fun i => match L[i]? with
  | some (some v) => some (i, am_con ρ v)
  | _ => none)
theorem am_as_in {ρ : Nat → Nat → Nat} {L : LL} {q : Nat × Value} : q ∈ am_as ρ L ↔ ∃ v, L[q.1]? = some (some v) ∧ q.2 = am_con ρ v := by
  obtain ⟨i, w⟩ := q
  simp only [am_as, List.mem_filterMap, List.mem_range]
  constructor
  · rintro ⟨a, ha, h⟩
    split at h
    · next v hv => cases h; exact ⟨v, hv, rfl⟩
    · cases h
  · rintro ⟨v, hv, rfl⟩
    refine ⟨i, (List.getElem?_eq_some_iff.mp hv).1, ?_⟩
    simp only [hv]
theorem am_hL.has {ρ : Nat → Nat → Nat} {ls : Array Slot} {L : LL} (h : am_hL ρ ls L) : lv_has ls L.length (am_as ρ L) := ⟨h.1, h.2.1, fun q hq => by
  obtain ⟨v, hv, e⟩ := am_as_in.mp hq
  rw [e]
  exact h.2.2 _ _ hv⟩
theorem am_hL.at {ρ : Nat → Nat → Nat} {ls : Array Slot} {L : LL} (h : am_hL ρ ls L) {i : Nat} {v : AV} (hv : L[i]? = some (some v)) : ls[i]? = some (.val (am_con ρ v)) := h.2.2 _ _ hv
/-- a value of one slot is stored -/
theorem am_hL.st1 {ρ : Nat → Nat → Nat} {ls : Array Slot} {L : LL} (h : am_hL ρ ls L) {i : Nat} {v : AV} (hi : i < L.length) (hc : (am_con ρ v).category = 1) : ∃ ls', storeLocals ls i (am_con ρ v) = some ls' ∧ am_hL ρ ls' (am_st L i (some v)) := by
  obtain ⟨ls', e, h1, h2, h3⟩ := lv_store1 (v := am_con ρ v) h.has hi hc
  refine ⟨ls', e, by rw [am_st_len]; exact h1, h2, fun j w hw => ?_⟩
  rw [am_st_get] at hw
  split at hw
  · next hj => cases hw; rw [hj.1]; exact h3 (i, am_con ρ v) List.mem_cons_self
  · next hj =>
    have hne : j ≠ i := fun q => hj ⟨q, hi⟩
    refine h3 (j, am_con ρ w) (List.mem_cons_of_mem _ (List.mem_filter.mpr ?_))
    split at hw
    · next hji =>
      cases hx : L[j]? with
      | none => rw [hx] at hw; cases hw
      | some x =>
        rw [hx] at hw
        obtain ⟨e1, e2⟩ := am_clr_some (Option.some.inj hw)
        subst e1
        refine ⟨am_as_in.mpr ⟨w, hx, rfl⟩, ?_⟩
        have := e2 ρ
        simp [hne, hji, this]
    · next hji => exact ⟨am_as_in.mpr ⟨w, hw, rfl⟩, by simp [hne, hji]⟩
/-- a long is stored -/
theorem am_hL.st2 {ρ : Nat → Nat → Nat} {ls : Array Slot} {L : LL} (h : am_hL ρ ls L) {i : Nat} {v : AV} (hi : i + 1 < L.length) (hc : (am_con ρ v).category = 2) : ∃ ls', storeLocals ls i (am_con ρ v) = some ls' ∧ am_hL ρ ls' ((am_st L i (some v)).set (i + 1) none) := by
  obtain ⟨ls', e, h1, h2, h3⟩ := lv_store2 (v := am_con ρ v) h.has hi hc
  refine ⟨ls', e, by rw [List.length_set, am_st_len]; exact h1, h2, fun j w hw => ?_⟩
  rw [List.getElem?_set] at hw
  split at hw
  · next hj => split at hw <;> cases hw
  next hj1 =>
  rw [am_st_get] at hw
  split at hw
  · next hj => cases hw; rw [hj.1]; exact h3 (i, am_con ρ v) List.mem_cons_self
  · next hj =>
    have hne : j ≠ i := fun q => hj ⟨q, by omega⟩
    refine h3 (j, am_con ρ w) (List.mem_cons_of_mem _ (List.mem_filter.mpr ?_))
    split at hw
    · next hji =>
      cases hx : L[j]? with
      | none => rw [hx] at hw; cases hw
      | some x =>
        rw [hx] at hw
        obtain ⟨e1, e2⟩ := am_clr_some (Option.some.inj hw)
        subst e1
        refine ⟨am_as_in.mpr ⟨w, hx, rfl⟩, ?_⟩
        have := e2 ρ
        simp [hne, this, show j ≠ i + 1 from fun q => hj1 q.symm]
    · next hji => exact ⟨am_as_in.mpr ⟨w, hw, rfl⟩, by simp [hne, hji, show j ≠ i + 1 from fun q => hj1 q.symm]⟩
section AMR
variable {Γ : AMG} {M : MD} {Q : QQ} {d k n pc pc' : Nat} {L L' : LL} {st st' : List AV} {I : II} {Lg : LJ} {R : RR} {G : GG}
/-- a step that touches locals and stack alone -/
theorem am_J.step (hs : ∀ (ρ : Nat → Nat → Nat) (p : Program) (e : Env) (Rm : Room) (s : State) (m : MethodId) (args : Array Value) (below : List Frame) (meth : Method) (c : Code) (H : Heap) (locs : List Loc) (cells slots : Nat) (Z : State → Prop) (ls : Array Slot), am_Cx Γ M p s m args meth c → am_hL ρ ls L →
      (∀ ls' : Array Slot, am_hL ρ ls' L' → W p Γ.l e Rm s m args below meth c H locs cells slots Z (F0 m pc' ls' (st'.map (am_con ρ)))) → W p Γ.l e Rm s m args below meth c H locs cells slots Z (F0 m pc ls (st.map (am_con ρ))))
    (ho : am_okL M.2.2.2.1 G L → am_okS G st → am_okL M.2.2.2.1 G L' ∧ am_okS G st') (h : am_J Γ M Q d k n pc' L' st' I Lg R G) : am_J Γ M Q d k n pc L st I Lg R G := by
  intro ρ p e Rm s m args below meth c H locs cells slots Z C h1 h2 h3 h4 hW hl hoL hoS ret ls hL
  exact hs ρ p e Rm s m args below meth c H locs cells slots Z ls C hL (fun ls' hL' => h ρ p e Rm s m args below meth c H locs cells slots Z C h1 h2 h3 h4 hW hl (ho hoL hoS).1 (ho hoL hoS).2 ret ls' hL')
theorem am_okS.cons {v : AV} (h : am_ok G v) (hs : am_okS G st) : am_okS G (v :: st) := fun w hw => (List.mem_cons.mp hw).elim (fun e => e ▸ h) (hs w)
theorem am_okS.tl {v : AV} (hs : am_okS G (v :: st)) : am_okS G st := fun w hw => hs w (List.mem_cons_of_mem _ hw)
theorem am_okS.hd {v : AV} (hs : am_okS G (v :: st)) : am_ok G v := hs v List.mem_cons_self
theorem am_okL.at {i nL : Nat} {v : AV} (h : am_okL nL G L) (hv : L[i]? = some (some v)) : am_ok G v := h.2 v (List.mem_of_getElem? hv)
theorem am_okL.sto {i nL : Nat} {v : AV} (h : am_okL nL G L) (hv : am_ok G v) : am_okL nL G (am_st L i (some v)) := by
  refine ⟨by rw [am_st_len]; exact h.1, ?_⟩
  intro w hw
  obtain ⟨j, hj⟩ := List.getElem?_of_mem hw
  rw [am_st_get] at hj
  split at hj
  · cases hj; exact hv
  · split at hj
    · cases hx : L[j]? with
      | none => rw [hx] at hj; cases hj
      | some x =>
        rw [hx] at hj
        obtain ⟨e1, -⟩ := am_clr_some (Option.some.inj hj)
        subst e1
        exact h.at hx
    · exact h.at hj
theorem am_okL.set {i nL : Nat} (h : am_okL nL G L) : am_okL nL G (L.set i none) := by
  refine ⟨by rw [List.length_set]; exact h.1, ?_⟩
  intro w hw
  obtain ⟨j, hj⟩ := List.getElem?_of_mem hw
  rw [List.getElem?_set] at hj
  split at hj
  · split at hj <;> cases hj
  · exact h.at hj
theorem am_okS.i {x : Int32} (h : am_okS G st) : am_okS G (vI x :: st) := am_okS.cons (v := vI x) trivial h
theorem am_okS.l {x : Int64} (h : am_okS G st) : am_okS G (vL x :: st) := am_okS.cons (v := vL x) trivial h
theorem ar_iconst {z : Int} (hd : decode M.2.2.1 pc = .ok (.iconst z, 1)) (h : am_J Γ M Q d k n (pc + 1) L (vI (zI z) :: st) I Lg R G) : am_J Γ M Q d k n pc L st I Lg R G :=
  am_J.step (fun ρ p e Rm s m args below meth c H locs cells slots Z ls C hl kk => lv_iconst C.1 C.2.1 hd rfl (kk ls hl)) (fun a b => ⟨a, b.i⟩) h
theorem ar_bipush {z : Int} (hz : (Int8.ofInt z).toInt32 = zI z) (hd : decode M.2.2.1 pc = .ok (.bipush z, 2)) (h : am_J Γ M Q d k n (pc + 2) L (vI (zI z) :: st) I Lg R G) : am_J Γ M Q d k n pc L st I Lg R G :=
  am_J.step (fun ρ p e Rm s m args below meth c H locs cells slots Z ls C hl kk => lv_bipush C.1 C.2.1 hd hz (kk ls hl)) (fun a b => ⟨a, b.i⟩) h
theorem ar_sipush {z : Int} (hz : (Int16.ofInt z).toInt32 = zI z) (hd : decode M.2.2.1 pc = .ok (.sipush z, 3)) (h : am_J Γ M Q d k n (pc + 3) L (vI (zI z) :: st) I Lg R G) : am_J Γ M Q d k n pc L st I Lg R G :=
  am_J.step (fun ρ p e Rm s m args below meth c H locs cells slots Z ls C hl kk => lv_sipush C.1 C.2.1 hd hz (kk ls hl)) (fun a b => ⟨a, b.i⟩) h
theorem ar_ldc {z : Int} {i : Nat} (hz : Cond.constant M.1 i (zI z) ∈ am_BIG) (hd : decode M.2.2.1 pc = .ok (.ldc i, 2)) (h : am_J Γ M Q d k n (pc + 2) L (vI (zI z) :: st) I Lg R G) : am_J Γ M Q d k n pc L st I Lg R G :=
  am_J.step (fun ρ p e Rm s m args below meth c H locs cells slots Z ls C hl kk => lv_ldc C.1 C.2.1 C.2.2.2.2.2.1 (C.2.2.2.2.2.2.1 _ hz) hd (kk ls hl)) (fun a b => ⟨a, b.i⟩) h
theorem ar_ldc2 {z : Int} {i : Nat} (hz : Cond.constantLong M.1 i (zL z) ∈ am_BIG) (hd : decode M.2.2.1 pc = .ok (.ldc2_w i, 3)) (h : am_J Γ M Q d k n (pc + 3) L (vL (zL z) :: st) I Lg R G) : am_J Γ M Q d k n pc L st I Lg R G :=
  am_J.step (fun ρ p e Rm s m args below meth c H locs cells slots Z ls C hl kk => lv_ldc2 C.1 C.2.1 C.2.2.2.2.2.1 (C.2.2.2.2.2.2.1 _ hz) hd (kk ls hl)) (fun a b => ⟨a, b.l⟩) h
theorem ar_lconst {j : Fin 2} {z : Int} (hz : Int64.ofNat (j : Nat) = zL z) (hd : decode M.2.2.1 pc = .ok (.lconst j, 1)) (h : am_J Γ M Q d k n (pc + 1) L (vL (zL z) :: st) I Lg R G) : am_J Γ M Q d k n pc L st I Lg R G :=
  am_J.step (fun ρ p e Rm s m args below meth c H locs cells slots Z ls C hl kk => lv_lconst C.1 C.2.1 hd hz (kk ls hl)) (fun a b => ⟨a, b.l⟩) h
theorem ar_iload_n {j : Fin 4} {x : Int32} (hv : L[(j : Nat)]? = some (some (vI x))) (hd : decode M.2.2.1 pc = .ok (.iload_n j, 1)) (h : am_J Γ M Q d k n (pc + 1) L (vI x :: st) I Lg R G) : am_J Γ M Q d k n pc L st I Lg R G :=
  am_J.step (fun ρ p e Rm s m args below meth c H locs cells slots Z ls C hl kk => lv_iload_n C.1 C.2.1 hd rfl (hl.at hv) (kk ls hl)) (fun a b => ⟨a, b.i⟩) h
theorem ar_iload {j : Nat} {x : Int32} (hv : L[j]? = some (some (vI x))) (hd : decode M.2.2.1 pc = .ok (.iload j, 2)) (h : am_J Γ M Q d k n (pc + 2) L (vI x :: st) I Lg R G) : am_J Γ M Q d k n pc L st I Lg R G :=
  am_J.step (fun ρ p e Rm s m args below meth c H locs cells slots Z ls C hl kk => lv_iload C.1 C.2.1 hd (hl.at hv) (kk ls hl)) (fun a b => ⟨a, b.i⟩) h
theorem ar_lload_n {j : Fin 4} {x : Int64} (hv : L[(j : Nat)]? = some (some (vL x))) (hd : decode M.2.2.1 pc = .ok (.lload_n j, 1)) (h : am_J Γ M Q d k n (pc + 1) L (vL x :: st) I Lg R G) : am_J Γ M Q d k n pc L st I Lg R G :=
  am_J.step (fun ρ p e Rm s m args below meth c H locs cells slots Z ls C hl kk => lv_lload_n C.1 C.2.1 hd rfl (hl.at hv) (kk ls hl)) (fun a b => ⟨a, b.l⟩) h
theorem ar_lload {j : Nat} {x : Int64} (hv : L[j]? = some (some (vL x))) (hd : decode M.2.2.1 pc = .ok (.lload j, 2)) (h : am_J Γ M Q d k n (pc + 2) L (vL x :: st) I Lg R G) : am_J Γ M Q d k n pc L st I Lg R G :=
  am_J.step (fun ρ p e Rm s m args below meth c H locs cells slots Z ls C hl kk => lv_lload C.1 C.2.1 hd (hl.at hv) (kk ls hl)) (fun a b => ⟨a, b.l⟩) h
theorem ar_aload_n {j : Fin 4} {o : Option (Nat × Nat)} (hv : L[(j : Nat)]? = some (some (.inr (.inr o)))) (hd : decode M.2.2.1 pc = .ok (.aload_n j, 1)) (h : am_J Γ M Q d k n (pc + 1) L (.inr (.inr o) :: st) I Lg R G) : am_J Γ M Q d k n pc L st I Lg R G :=
  am_J.step (fun ρ p e Rm s m args below meth c H locs cells slots Z ls C hl kk => by
    have h1 := hl.at hv
    obtain _ | ⟨a, b⟩ := o
    · refine W.go (g2 := F0 m (pc + 1) ls (.null :: st.map (am_con ρ))) (fun T hT tg ht => ?_) (kk ls hl)
      have h2 : ls[(j : Nat)]? = some (.val .null) := h1
      jvm_step hT [hT.top, C.1, C.2.1, hd, h2, Value.isRef]
      exact ht
    · exact lv_aload_n C.1 C.2.1 hd rfl h1 (kk ls hl)) (fun a b => ⟨a, am_okS.cons (a.at hv) b⟩) h
theorem ar_aload {j : Nat} {o : Option (Nat × Nat)} (hv : L[j]? = some (some (.inr (.inr o)))) (hd : decode M.2.2.1 pc = .ok (.aload j, 2)) (h : am_J Γ M Q d k n (pc + 2) L (.inr (.inr o) :: st) I Lg R G) : am_J Γ M Q d k n pc L st I Lg R G :=
  am_J.step (fun ρ p e Rm s m args below meth c H locs cells slots Z ls C hl kk => by
    have h1 := hl.at hv
    obtain _ | ⟨a, b⟩ := o
    · refine W.go (g2 := F0 m (pc + 2) ls (.null :: st.map (am_con ρ))) (fun T hT tg ht => ?_) (kk ls hl)
      have h2 : ls[j]? = some (.val .null) := h1
      jvm_step hT [hT.top, C.1, C.2.1, hd, h2, Value.isRef]
      exact ht
    · exact lv_aload C.1 C.2.1 hd h1 (kk ls hl)) (fun a b => ⟨a, am_okS.cons (a.at hv) b⟩) h
end AMR

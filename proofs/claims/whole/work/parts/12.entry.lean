/-! A contract out of the judgement: how a method is entered and left; what is weaker. -/
theorem am_J.mono {Γ : AMG} {M : MD} {Q Q2 : QQ} {d k n pc : Nat} {L : LL} {st : List AV} {I : II} {Lg : LJ} {R : RR} {G : GG} (h : am_J Γ M Q d k n pc L st I Lg R G) (hq : ∀ r I' Lg' R' G', Q r I' Lg' R' G' → Q2 r I' Lg' R' G') : am_J Γ M Q2 d k n pc L st I Lg R G :=
  fun ρ p e Rm s m args below meth c H locs cells slots Z C h1 h2 h3 h4 hW hl hoL hoS ret ls hL => h ρ p e Rm s m args below meth c H locs cells slots Z C h1 h2 h3 h4 hW hl hoL hoS (fun ρ' r I' Lg' R' G' H' locs' cells' slots' pc' ls' b1 b2 b3 b4 b5 b6 b7 b8 => ret ρ' r I' Lg' R' G' H' locs' cells' slots' pc' ls' b1 b2 b3 b4 b5 b6 (hq _ _ _ _ _ b7) b8) ls hL
/-- what stands in a local is forgotten -/
theorem am_J.drop {Γ : AMG} {M : MD} {Q : QQ} {d k n pc : Nat} {L L' : LL} {st : List AV} {I : II} {Lg : LJ} {R : RR} {G : GG} (hlen : L'.length = L.length) (hs : ∀ (i : Nat) (v : AV), L'[i]? = some (some v) → L[i]? = some (some v)) (h : am_J Γ M Q d k n pc L' st I Lg R G) : am_J Γ M Q d k n pc L st I Lg R G :=
  am_J.step (fun ρ p e Rm s m args below meth c H locs cells slots Z ls C hl kk => kk ls ⟨hl.1.trans hlen.symm, hl.2.1, fun i v hv => hl.2.2 i v (hs i v hv)⟩) (fun a b => ⟨⟨hlen.trans a.1, fun v hv => by
    obtain ⟨i, hi⟩ := List.getElem?_of_mem hv
    exact a.at (hs i v hi)⟩, b⟩) h
def am_dropR : LL → LL → Bool
  | [], [] => true
  | none :: a, _ :: b => am_dropR a b
  | some _ :: _, none :: _ => false
  | some _ :: a, some _ :: b => am_dropR a b
  | _, _ => false
/-- the slots of the arguments -/
def am_slots : List AV → LL
  | [] => []
  | .inr (.inl x) :: r => some (vL x) :: none :: am_slots r
  | .inl x :: r => some (vI x) :: am_slots r
  | .inr (.inr o) :: r => some (.inr (.inr o)) :: am_slots r
def am_pad : Nat → LL → LL
  | 0, l => l
  | n + 1, [] => none :: am_pad n []
  | n + 1, x :: l => x :: am_pad n l
theorem am_pad_get : ∀ (n : Nat) (l : LL) (i : Nat) (v : AV), (am_pad n l)[i]? = some (some v) → l[i]? = some (some v)
  | 0, _, _, _, h => h
  | n + 1, [], 0, _, h => by cases h
  | n + 1, [], i + 1, v, h => by
    have h1 := am_pad_get n [] i v (by simpa [am_pad] using h)
    simp at h1
  | n + 1, x :: l, 0, v, h => h
  | n + 1, x :: l, i + 1, v, h => by
    have h1 := am_pad_get n l i v (by simpa [am_pad] using h)
    simpa using h1
theorem am_pad_len : ∀ (n : Nat) (l : LL), l.length ≤ n → (am_pad n l).length = n
  | 0, [], _ => rfl
  | 0, _ :: _, h => absurd h (by simp)
  | n + 1, [], _ => by simp [am_pad, am_pad_len n [] (by simp)]
  | n + 1, x :: l, h => by simp [am_pad, am_pad_len n l (by simpa using h)]
theorem am_slots_len (ρ : Nat → Nat → Nat) : ∀ args : List AV, (am_slots args).length = (lg_sl (args.map (am_con ρ))).length
  | [] => rfl
  | .inr (.inl x) :: r => by
    have h := am_slots_len ρ r
    simp only [am_slots, List.length_cons, h, lg_sl, List.map_cons, List.flatMap_cons, am_con, Value.category, List.length_append]
    simp
    omega
  | .inl x :: r => by
    have h := am_slots_len ρ r
    simp only [am_slots, List.length_cons, h, lg_sl, List.map_cons, List.flatMap_cons, am_con, Value.category, List.length_append]
    simp
    omega
  | .inr (.inr none) :: r => by
    have h := am_slots_len ρ r
    simp only [am_slots, List.length_cons, h, lg_sl, List.map_cons, List.flatMap_cons, am_con, Value.category, List.length_append]
    simp
    omega
  | .inr (.inr (some (a, b))) :: r => by
    have h := am_slots_len ρ r
    simp only [am_slots, List.length_cons, h, lg_sl, List.map_cons, List.flatMap_cons, am_con, Value.category, List.length_append]
    simp
    omega
theorem am_slots_get (ρ : Nat → Nat → Nat) : ∀ (args : List AV) (o i : Nat) (v : AV), (am_slots args)[i]? = some (some v) → (o + i, am_con ρ v) ∈ lv_args o (args.map (am_con ρ))
  | [], _, _, _, h => by simp [am_slots] at h
  | .inr (.inl x) :: r, o, 0, v, h => by
    simp only [am_slots, List.getElem?_cons_zero, Option.some.injEq] at h
    subst h
    exact List.mem_cons_self
  | .inr (.inl x) :: r, o, 1, v, h => by simp [am_slots] at h
  | .inr (.inl x) :: r, o, i + 2, v, h => by
    have h1 := am_slots_get ρ r (o + 2) i v (by simpa [am_slots] using h)
    refine List.mem_cons_of_mem _ ?_
    rw [if_pos (show (am_con ρ (Sum.inr (Sum.inl x))).category = 2 from rfl), show o + (i + 2) = o + 2 + i by omega]
    exact h1
  | .inl x :: r, o, 0, v, h => by
    simp only [am_slots, List.getElem?_cons_zero, Option.some.injEq] at h
    subst h
    exact List.mem_cons_self
  | .inl x :: r, o, i + 1, v, h => by
    have h1 := am_slots_get ρ r (o + 1) i v (by simpa [am_slots] using h)
    refine List.mem_cons_of_mem _ ?_
    rw [if_neg (by simp [am_con, Value.category]), show o + (i + 1) = o + 1 + i by omega]
    exact h1
  | .inr (.inr q) :: r, o, 0, v, h => by
    simp only [am_slots, List.getElem?_cons_zero, Option.some.injEq] at h
    subst h
    exact List.mem_cons_self
  | .inr (.inr q) :: r, o, i + 1, v, h => by
    have h1 := am_slots_get ρ r (o + 1) i v (by simpa [am_slots] using h)
    refine List.mem_cons_of_mem _ ?_
    rw [if_neg (by obtain _ | ⟨a, b⟩ := q <;> simp [am_con, Value.category]), show o + (i + 1) = o + 1 + i by omega]
    exact h1
theorem am_slots_ok {G : GG} : ∀ (args : List AV), am_okS G args → ∀ v, some v ∈ am_slots args → am_ok G v
  | [], _, v, h => by simp [am_slots] at h
  | .inr (.inl x) :: r, hs, v, h => by
    simp only [am_slots, List.mem_cons, Option.some.injEq] at h
    rcases h with rfl | h | h
    · trivial
    · cases h
    · exact am_slots_ok r (fun w hw => hs w (List.mem_cons_of_mem _ hw)) v h
  | .inl x :: r, hs, v, h => by
    simp only [am_slots, List.mem_cons, Option.some.injEq] at h
    rcases h with rfl | h
    · trivial
    · exact am_slots_ok r (fun w hw => hs w (List.mem_cons_of_mem _ hw)) v h
  | .inr (.inr q) :: r, hs, v, h => by
    simp only [am_slots, List.mem_cons, Option.some.injEq] at h
    rcases h with rfl | h
    · exact hs _ List.mem_cons_self
    · exact am_slots_ok r (fun w hw => hs w (List.mem_cons_of_mem _ hw)) v h
/-- the contract out of the judgement at the method's entry -/
theorem am_Sp.of {Γ : AMG} {M : MD} {Q : QQ} {d k n : Nat} {args : List AV} {I : II} {Lg : LJ} {R : RR} {G : GG} (hpl : (plainName M.2.1.cls && Nat.blt M.2.2.2.2.2 100) = true) (hown : M.2.1.cls = M.1) (hlen : (am_slots args).length ≤ M.2.2.2.1) (h : am_J Γ M Q d k n 0 (am_pad M.2.2.2.1 (am_slots args)) [] I Lg R G) : am_Sp Γ d k n M args I Lg R G Q := by
  intro ρ hGK hargs
  refine Met.ofW (cc := M.2.2.1) (maxL := M.2.2.2.1) (ret := M.2.2.2.2.1) (Bool.and_eq_true_iff.mp hpl).1 rfl ?_
  intro p e s m args9 below meth c s₁ B hml hv
  obtain ⟨rfl, hK, hW⟩ := hv
  have hts := atoms_spec (ws := am_ws M) B.pre
  have hown2 : s.vm.findClass M.1 = some m.cls := by rw [← hown]; exact findClass_of_methodNamed B.named
  have hin : meth.name = M.2.1.name := (name_of_methodNamed B.named B.method).1
  have hle : (lg_sl (args.map (am_con ρ))).length ≤ M.2.2.2.1 := by rw [← am_slots_len]; exact hlen
  have hl := lv_entry (args.map (am_con ρ)) (n := M.2.2.2.1) hle
  rw [lg_entry_eq]
  have hb := B.bytes
  have hr := B.returns
  have hx := B.exec
  have hlocks := B.notSynchronized
  refine h ρ p e (headSpec (am_ws M) (am_rm d k n)).room s m _ below meth c s.heap [] 0 0 _ ⟨hx, hb, hml, hr, hlocks, hown2, fun w hw => hts w (List.mem_cons_of_mem _ hw), fun z => hin.trans z, hK, hGK⟩ (Nat.le_refl _) (Nat.le_refl _) (by show 0 + k ≤ k; omega) (by show 0 + n ≤ n; omega) hW (fun q hq => by cases hq) ⟨am_pad_len _ _ hlen, fun v hv => ?_⟩ (fun v hv => by cases hv) ?_ _ ⟨hl.1.trans (am_pad_len _ _ hlen).symm, hl.2.1, fun i v hv => ?_⟩
  · obtain ⟨i, hi⟩ := List.getElem?_of_mem hv
    exact am_slots_ok args hargs v (List.mem_of_getElem? (am_pad_get _ _ i v hi))
  · intro ρ' r I' Lg' R' G' H' locs' cells' slots' pc' ls' b1 b2 b3 b4 b5 b6 b7 b8
    refine W.widen (k := k) (n := n) (by omega) (by omega) ?_
    match r, b3, b7, b8 with
    | none, b3, b7, b8 =>
      have hb9 := Nat.blt_eq.mp (Bool.and_eq_true_iff.mp hpl).2
      have b8 := b8.resolve_right (fun z => by omega)
      exact W.vret hx hb (hr.trans b8.2) (fun t ht hWm => ⟨ρ', none, I', Lg', R', G', rfl, by rw [ht]; exact b1, b2, b3, b7⟩) b4 b8.1
    | some (.inl x), b3, b7, b8 =>
      obtain ⟨b8, b9 | ⟨b9, b10⟩⟩ := b8
      · exact W.iret hx hb (hr.trans b9) (fun t ht hWm => ⟨ρ', some (.inl x), I', Lg', R', G', rfl, by rw [ht]; exact b1, b2, b3, b7⟩) b4 b8
      · exact W.zret hx hb (hr.trans b9) (by rcases b10 with rfl | rfl <;> rfl) (fun t ht hWm => ⟨ρ', some (.inl x), I', Lg', R', G', rfl, by rw [ht]; exact b1, b2, b3, b7⟩) b4 b8
    | some (.inr (.inl x)), b3, b7, b8 => exact W.lret hx hb (hr.trans b8.2) (fun t ht hWm => ⟨ρ', some (.inr (.inl x)), I', Lg', R', G', rfl, by rw [ht]; exact b1, b2, b3, b7⟩) b4 b8.1
    | some (.inr (.inr none)), b3, b7, b8 =>
      obtain ⟨b8, nm, b9⟩ := b8
      exact W.aret (v := .null) hx hb (hr.trans b9) (Or.inl ⟨nm, rfl⟩) (Or.inl rfl) (fun t ht hWm => ⟨ρ', some vN, I', Lg', R', G', rfl, by rw [ht]; exact b1, b2, b3, b7⟩) b4 b8
    | some (.inr (.inr (some (a, b)))), b3, b7, b8 =>
      obtain ⟨b8, nm, b9⟩ := b8
      exact W.aret (v := .ref (ρ' a b)) hx hb (hr.trans b9) (Or.inl ⟨nm, rfl⟩) (Or.inr ⟨_, rfl⟩) (fun t ht hWm => ⟨ρ', some (vR a b), I', Lg', R', G', rfl, by rw [ht]; exact b1, b2, b3, b7⟩) b4 b8
  · have h1 := am_slots_get ρ args 0 i v (am_pad_get _ _ i v hv)
    rw [Nat.zero_add] at h1
    exact hl.2.2 _ h1
theorem am_Sp.mono {Γ : AMG} {M : MD} {Q Q2 : QQ} {d k n : Nat} {args : List AV} {I : II} {Lg : LJ} {R : RR} {G : GG} (h : am_Sp Γ d k n M args I Lg R G Q) (hq : ∀ r I' Lg' R' G', Q r I' Lg' R' G' → Q2 r I' Lg' R' G') : am_Sp Γ d k n M args I Lg R G Q2 := by
  intro ρ hGK hargs p e ha hc hk s m a below hf happ hP hK
  obtain ⟨n1, o, h1, h2, h3, ⟨ρ', r, I', Lg', R', G', e1, e2, e3, e4, e5⟩, hL⟩ := h ρ hGK hargs p e ha hc hk s m a below hf happ hP hK
  exact ⟨n1, o, h1, h2, h3, ⟨ρ', r, I', Lg', R', G', e1, e2, e3, e4, hq _ _ _ _ _ e5⟩, hL⟩

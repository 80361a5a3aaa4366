/-! The law's walk from the entry (what 'made' does is still a hypothesis). -/
theorem inst_in : ∀ (c : Nat) (r : vw_C), vwCl[c]? = some r → Cond.instantiable r.1 r.2.2 ∈ lw_tbl := by
  have h : vwCl.map (fun r => some (Cond.instantiable r.1 r.2.2)) = [353, 605, 470, 205, 347, 181, 415, 521, 276, 270, 134, 126, 1326].map (fun i => lw_tbl[i]?) := by decide +kernel
  intro c r hr
  have h2 := congrArg (fun l => l[c]?) h
  simp only [List.getElem?_map, hr, Option.map_some] at h2
  cases hq : ([353, 605, 470, 205, 347, 181, 415, 521, 276, 270, 134, 126, 1326] : List Nat)[c]? with
  | none => rw [hq] at h2; cases h2
  | some i =>
    rw [hq] at h2
    exact List.mem_of_getElem? (Option.some.inj h2).symm
/-- the types of the rows -/
def tyK (k : Nat) : FieldType := match k with
  | 0 => .int
  | 1 => .boolean
  | 2 => .long
  | 3 => .object "StormLoft$Board"
  | 4 => .object "StormLoft$Path"
  | 5 => .object "StormLoft$Plan"
  | 6 => .object "StormLoft$Ball"
  | _ => .array .int
theorem ty_prim {s : State} {A : Array Value} {ty : FieldType} (h : (Cond.arrayClass ty).before A s = true) (hp : ∀ C, ty ≠ .object C) : ∃ cA, ArrOfT s cA ty ∧ va_RA s cA ty := by
  obtain ⟨c, k, comp, h1, h2, h3⟩ := Cond.arrayClass_spec h
  refine ⟨c, fun N z => ⟨(fun k h => by cases h), k, h2, comp, h3⟩, ?_⟩
  unfold va_RA
  cases ty with
  | object C => exact absurd rfl (hp C)
  | _ => exact h1
theorem ty_obj {s : State} {A : Array Value} {C : String} (h : (Cond.arrayOver (.object C)).before A s = true) : ∃ cA, ArrOfT s cA (.object C) ∧ va_RA s cA (.object C) := by
  obtain ⟨comp, c, k, h1, -, h3, h4, h5⟩ := Cond.arrayOver_spec h
  exact ⟨c, fun N z => ⟨(fun k h => by cases h), k, h3, comp, h4⟩, k, comp, h3, h4, h1, h5⟩
theorem ty_arr {s : State} {A : Array Value} {ty : FieldType} (h : (Cond.arrayOver (.array ty)).before A s = true) : ∃ cA, ArrOfT s cA (.array ty) ∧ va_RA s cA (.array ty) := by
  obtain ⟨comp, c, k, -, h3, h4, h5⟩ := ov_arr h
  exact ⟨c, fun N z => ⟨(fun k h => by cases h), k, h3, comp, h4⟩, h5⟩
theorem ty_all {s : State} {A : Array Value} (hts : ∀ w ∈ lw_tbl, w.before A s = true) (k : Nat) : ∃ cA, ArrOfT s cA (tyK k) ∧ va_RA s cA (tyK k) := by
  have tb : ∀ (i : Nat) (w : Cond), lw_tbl[i]? = some w → w.before A s = true := fun i w h => hts w (List.mem_of_getElem? h)
  match k with
  | 0 => exact ty_prim (tb 175 _ (by decide +kernel)) (fun C h => by cases h)
  | 1 => exact ty_prim (tb 1600 _ (by decide +kernel)) (fun C h => by cases h)
  | 2 => exact ty_prim (tb 1601 _ (by decide +kernel)) (fun C h => by cases h)
  | 3 => exact ty_obj (tb 177 _ (by decide +kernel))
  | 4 => exact ty_obj (tb 179 _ (by decide +kernel))
  | 5 => exact ty_obj (tb 303 _ (by decide +kernel))
  | 6 => exact ty_obj (tb 421 _ (by decide +kernel))
  | _ + 7 => exact ty_arr (tb 211 _ (by decide +kernel))
theorem cl_all {s : State} {A : Array Value} (hts : ∀ w ∈ lw_tbl, w.before A s = true) (c : Nat) : ∃ p : ClassId × (Nat → Nat), ∀ q : vw_C, vwCl[c]? = some q → u_Kn s q.1 q.2.1 q.2.2 p.1 p.2 := by
  cases hq : vwCl[c]? with
  | none => exact ⟨(0, fun _ => 0), fun q h => by cases h⟩
  | some r =>
    obtain ⟨cC, iS, h⟩ := u_known (C := r.1) (T := r.2.1) (N := r.2.2) (n := r.2.2) hts (fun w hw => (List.mem_filter.mp (am_wsin c r hq w hw)).1) (hts _ (inst_in c r hq))
    exact ⟨(cC, iS), fun q h9 => by cases h9; exact h⟩
theorem whole_open {p : Program} {e : Env} {s : State} {m : MethodId} {below : List Frame} {meth : Method} {c : Code} (hmade : ∀ Γ : AMG, WMade Γ) (l : Launch) (hflags : l.flags = flags0) {b L : Nat} {xs : Nat → Int32} (hL : L ≤ 3072) (C0 : lw_At p s m meth c b L xs) : W p l e room_1 s m #[Value.ref b] below meth c s.heap [] 0 0 (lw_Z below #[Value.ref b] s) (entryFrame m ([Value.ref b] : List Value).toArray 7) := by
  obtain ⟨hx, hb, hr, hml, hown, hts, hX, hbl, hlocks, hgv⟩ := id C0
  obtain ⟨ad, hKX⟩ := kx_start hts hX hgv
  have hst : l.stackTraces = false := by
    unfold Launch.stackTraces
    rw [hflags]
    decide +kernel
  let dC : Nat → ClassId := fun k => (Classical.choose (cl_all hts k)).1
  let dI : Nat → Nat → Nat := fun k => (Classical.choose (cl_all hts k)).2
  let cy : Nat → ClassId := fun k => Classical.choose (ty_all hts k)
  let Γ : AMG := (l, (dC, dI), cy, ad, (b, L, xs), s.heap, am_KXd s.heap b L xs ad)
  have hGK : am_GK Γ := am_KXd.gk (Γ := Γ) (b := b) (L := L) (xs := xs) (ad := ad) rfl
  have hcy : ∀ k, ArrOfT s (cy k) (tyK k) ∧ va_RA s (cy k) (tyK k) := fun k => Classical.choose_spec (ty_all hts k)
  have hK : am_K Γ s := by
    refine ⟨⟨fun k q hq => Classical.choose_spec (cl_all hts k) q hq, fun k q hq => ?_⟩, hKX⟩
    match k, hq with
    | 0, hq => cases hq; exact hcy 0
    | 1, hq => cases hq; exact hcy 1
    | 2, hq => cases hq; exact hcy 2
    | 3, hq => cases hq; exact hcy 3
    | 4, hq => cases hq; exact hcy 4
    | 5, hq => cases hq; exact hcy 5
    | 6, hq => cases hq; exact hcy 6
    | 7, hq => cases hq; exact hcy 7
    | _ + 8, hq => cases hq
  have key := w_entry (Γ := Γ) (Q := fun r _ _ _ _ => r = some (vI (zI 1))) (d := 0) (hmade Γ) (SWok.of (am_KXd.st (Γ := Γ) (b := b) (L := L) (xs := xs) rfl)) (am_KXd.kw (Γ := Γ) (b := b) (L := L) (xs := xs) rfl) (am_KXd.tk (Γ := Γ) (b := b) (L := L) (xs := xs) rfl hst) (am_KXd.nk (Γ := Γ) (b := b) (L := L) (xs := xs) (ad := ad) rfl) (am_KXd.scr (Γ := Γ) (ad := ad) rfl) hL (fun _ _ _ _ => rfl)
  have hl := lv_entry ([.ref b]) (n := 7) (Nat.le_of_ble_eq_true rfl)
  rw [lg_entry_eq]
  generalize (lg_sl ([.ref b]) ++ List.replicate (7 - (lg_sl ([Value.ref b])).length) Slot.unset).toArray = ls at hl ⊢
  have hl : lv_has ls 7 [(0, .ref b)] := hl
  have hW : am_Wd Γ (fun c k => if c = 117 then ad k else b) Iini Lini Rini Gini s.heap := by
    refine ⟨fun c i _ h => absurd h (Nat.not_lt_zero _), fun c i c' i' _ _ h _ => absurd h (Nat.not_lt_zero _), fun c i _ h => absurd h (Nat.not_lt_zero _), fun k => rfl, fun k => rfl, Nat.le_refl _, fun q _ => rfl, fun c i k c' i' _ h => absurd h (Nat.not_lt_zero _), fun c i _ _ _ => ⟨fun _ _ _ => rfl, fun _ _ _ => rfl, fun _ _ _ => rfl, fun _ => rfl⟩⟩
  refine key (fun c k => if c = 117 then ad k else b) p e room_1 s m #[Value.ref b] below meth c s.heap [] 0 0 (lw_Z below #[Value.ref b] s) ⟨hx, hb, hml, hr, hlocks, hown, fun w hw => hts w (List.mem_filter.mp hw).1, fun h => absurd h (by decide), hK, hGK⟩ (Nat.le_of_ble_eq_true rfl) (Nat.le_of_ble_eq_true rfl) (Nat.le_of_ble_eq_true rfl) (Nat.le_of_ble_eq_true rfl) hW (fun q hq => by cases hq) ⟨rfl, fun v hv => ?_⟩ (fun v hv => by cases hv) ?_ ls ⟨hl.1, hl.2.1, fun i v hv => ?_⟩
  · simp only [List.mem_cons, Option.some.injEq, reduceCtorEq, List.not_mem_nil, or_false] at hv
    subst hv
    exact Or.inr (by decide)
  · intro ρ' r I' Lg' R' G' H' locs' cells' slots' pc' ls' b1 b2 b3 b4 b5 b6 b7 b8
    subst b7
    refine va_forget b4 (W.widen (k := 601024) (n := 7293034) (by omega) (by omega) ?_)
    exact lw_ret hx hb hr hlocks b8.1
  · match i, hv with
    | 0, hv => cases hv; exact lv_at hl 0 rfl
    | 1, hv => cases hv
    | 2, hv => cases hv
    | 3, hv => cases hv
    | 4, hv => cases hv
    | 5, hv => cases hv
    | 6, hv => cases hv
    | _ + 7, hv => cases hv

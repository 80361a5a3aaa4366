/-! Worn steps: what a search finds. -/
/-- the ticks of the knocks -/
def knT (rn : RUN) (g : Int32) (ls : Nat → Int) : Nat → Int → Int → Int → Int → List Int
  | 0, _, _, _, _ => []
  | f + 1, t, pl, pt, sp => if pl = 255 then [] else (if 0 < (tickB rn g ls pl pt sp).2.2.2.1 then [t] else []) ++ knT rn g ls f (t + 1) (tickB rn g ls pl pt sp).1 (tickB rn g ls pl pt sp).2.1 (tickB rn g ls pl pt sp).2.2.1
theorem knT_255 {rn : RUN} {g : Int32} {ls : Nat → Int} {t pt sp : Int} : ∀ f : Nat, knT rn g ls f t 255 pt sp = []
  | 0 => rfl
  | f + 1 => by
    unfold knT
    rw [if_pos rfl]
theorem foll_knT {rn : RUN} {g : Int32} {ls : Nat → Int} : ∀ (f : Nat) (t : Int) (S : FS), 1 ≤ t → (S.en = -1 ↔ S.pl ≠ 255) → (foll rn g ls f t S).ks.map (fun e => e.1) = S.ks.map (fun e => e.1) ++ knT rn g ls f t S.pl S.pt S.sp
  | 0, t, S, _, _ => by
    show S.ks.map (fun e => e.1) = _ ++ []
    rw [List.append_nil]
  | f + 1, t, S, ht, h => by
    unfold foll knT
    by_cases q : S.en = -1
    · have hp := h.mp q
      have hk : (fstep rn g ls t S).ks.map (fun e => e.1) = S.ks.map (fun e => e.1) ++ (if 0 < (tickB rn g ls S.pl S.pt S.sp).2.2.2.1 then [t] else []) := by
        unfold fstep
        dsimp only [FS.ks]
        split
        · rw [List.map_append]; rfl
        · rw [List.append_nil]
      rw [if_pos q, if_neg hp, foll_knT f (t + 1) _ (by omega) ?_, hk, List.append_assoc]
      · rfl
      · unfold fstep
        dsimp only [FS.en, FS.pl]
        by_cases z : (tickB rn g ls S.pl S.pt S.sp).1 = 255
        · rw [if_pos z]
          exact ⟨fun q => by omega, fun q => absurd z q⟩
        · rw [if_neg z]
          exact ⟨fun _ => z, fun _ => rfl⟩
    · have hp : S.pl = 255 := Classical.byContradiction (fun z => q (h.mpr z))
      rw [if_neg q, if_pos hp, List.append_nil]
theorem knT_gt {rn : RUN} {g : Int32} {ls : Nat → Int} : ∀ (f : Nat) (t pl pt sp x : Int), x ∈ knT rn g ls f t pl pt sp → t ≤ x
  | 0, _, _, _, _, _, h => by cases h
  | f + 1, t, pl, pt, sp, x, h => by
    unfold knT at h
    by_cases q : pl = 255
    · rw [if_pos q] at h
      cases h
    · rw [if_neg q] at h
      rcases List.mem_append.mp h with h | h
      · split at h
        · rw [List.mem_singleton.mp h]
          exact Int.le_refl _
        · cases h
      · have := knT_gt f (t + 1) _ _ _ x h
        omega
theorem rolE_gt {b : BD} : ∀ (f : Nat) (t p s t' p' s' : Int), rolE b f t p s = some (t', p', s') → t < t' ∧ t' ≤ t + f
  | 0, _, _, _, _, _, _, h => by cases h
  | f + 1, t, p, s, t', p', s', h => by
    unfold rolE at h
    split at h
    · cases h
      omega
    · have := rolE_gt f _ _ _ _ _ _ h
      omega
/-- what stands behind the tick in which place k is left -/
theorem knT_rol {rn : RUN} {g : Int32} {ls : Nat → Int} {k : Nat} {e : BD × Int × Int} (he : rn[k]? = some e) (hk : k < 12) : ∀ (f : Nat) (t p s : Int),
    (rolE e.1 f t p s = none → knT rn g ls f (t + 1) (k : Int) p s = []) ∧
    (∀ t' p' s' : Int, rolE e.1 f t p s = some (t', p', s') → knT rn g ls f (t + 1) (k : Int) p s = (if 0 < lvK (max 0 (e.1.2.2.2.1 - ls k)) s' then [t'] else []) ++ knT rn g ls (f - (t' - t).toNat) (t' + 1) (land rn g 12 (nx rn g k) (lvP e.1 (max 0 (e.1.2.2.2.1 - ls k)) p' s')).1 (land rn g 12 (nx rn g k) (lvP e.1 (max 0 (e.1.2.2.2.1 - ls k)) p' s')).2.1 (lvS e.1 s'))
  | 0, t, p, s => ⟨fun _ => rfl, fun t' p' s' h => (by cases h)⟩
  | f + 1, t, p, s => by
    have hk255 : (k : Int) ≠ 255 := by omega
    have hu : knT rn g ls (f + 1) (t + 1) (k : Int) p s = (if 0 < (tickB rn g ls (k : Int) p s).2.2.2.1 then [t + 1] else []) ++ knT rn g ls f (t + 1 + 1) (tickB rn g ls (k : Int) p s).1 (tickB rn g ls (k : Int) p s).2.1 (tickB rn g ls (k : Int) p s).2.2.1 := by
      conv => lhs; unfold knT
      rw [if_neg hk255]
    unfold rolE
    rw [hu]
    by_cases q : e.1.1 ≤ p + spd e.1 s
    · rw [if_pos q]
      refine ⟨fun h => (by cases h), fun t' p' s' h => ?_⟩
      cases h
      have ht : tickB rn g ls (k : Int) p s = ((land rn g 12 (nx rn g k) (lvP e.1 (max 0 (e.1.2.2.2.1 - ls k)) (p + spd e.1 s) (spd e.1 s))).1, (land rn g 12 (nx rn g k) (lvP e.1 (max 0 (e.1.2.2.2.1 - ls k)) (p + spd e.1 s) (spd e.1 s))).2.1, lvS e.1 (spd e.1 s), lvK (max 0 (e.1.2.2.2.1 - ls k)) (spd e.1 s), (land rn g 12 (nx rn g k) (lvP e.1 (max 0 (e.1.2.2.2.1 - ls k)) (p + spd e.1 s) (spd e.1 s))).2.2) := by
        unfold tickB
        rw [Int.toNat_natCast, he]
        dsimp only
        rw [if_neg (by omega)]
      rw [ht, show f + 1 - (t + 1 - t).toNat = f by omega]
    · rw [if_neg q]
      have ht : tickB rn g ls (k : Int) p s = ((k : Int), p + spd e.1 s, spd e.1 s, 0, 0) := by
        unfold tickB
        rw [Int.toNat_natCast, he]
        dsimp only
        rw [if_pos (by omega)]
      rw [ht]
      dsimp only
      rw [if_neg (by omega), List.nil_append]
      obtain ⟨h1, h2⟩ := knT_rol (g := g) (ls := ls) he hk f (t + 1) (p + spd e.1 s) (spd e.1 s)
      refine ⟨h1, fun t' p' s' h => ?_⟩
      have h3 := rolE_gt _ _ _ _ _ _ _ h
      rw [h2 t' p' s' h, show f - (t' - (t + 1)).toNat = f + 1 - (t' - t).toNat by omega]
/-- less ticks are enough, where the end is reached -/
theorem rolE_less {b : BD} : ∀ (f f2 : Nat) (t p s t' p' s' : Int), rolE b f t p s = some (t', p', s') → t' ≤ t + f2 → rolE b f2 t p s = some (t', p', s')
  | 0, _, _, _, _, _, _, _, h, _ => by cases h
  | f + 1, 0, t, p, s, t', p', s', h, h2 => by
    have := rolE_gt _ _ _ _ _ _ _ h
    omega
  | f + 1, f2 + 1, t, p, s, t', p', s', h, h2 => by
    unfold rolE at h ⊢
    by_cases q : b.1 ≤ p + spd b s
    · rw [if_pos q] at h ⊢
      exact h
    · rw [if_neg q] at h ⊢
      exact rolE_less f f2 _ _ _ _ _ _ h (by omega)
theorem rolE_more {b : BD} : ∀ (f f2 : Nat) (t p s t' p' s' : Int), rolE b f t p s = some (t', p', s') → f ≤ f2 → rolE b f2 t p s = some (t', p', s')
  | f, f2, t, p, s, t', p', s', h, h2 => by
    have := rolE_gt _ _ _ _ _ _ _ h
    refine rolE_less f f2 t p s t' p' s' h (by omega)
/-! the search -/
def leaveR (rn : RUN) (W : Nat → Int) (w : CRW) (b : BD) (t p s u : Int) : CRW :=
  (t, (land rn (zI 0) 12 (nx rn (zI 0) w.2.1) (lvP b (b.2.2.2.1 - u) p s)).1, (land rn (zI 0) 12 (nx rn (zI 0) w.2.1) (lvP b (b.2.2.2.1 - u) p s)).2.1, lvS b s, (if 0 < lvK (b.2.2.2.1 - u) s ∧ t = W w.2.2.2.2.1.toNat then w.2.2.2.2.1 + 1 else w.2.2.2.2.1), w.2.2.2.2.2 + u)
def wroll (rn : RUN) (W : Nat → Int) (w : CRW) : Option (BD × Int × Int × Int) := match rn[w.2.1.toNat]? with
  | none => none
  | some e => (rolE e.1 (min 2000 (W w.2.2.2.2.1.toNat) - w.1).toNat w.1 w.2.2.1 w.2.2.2.1).map (fun x => (e.1, x))
def wlv (rn : RUN) (nW : Nat) (W : Nat → Int) : Nat → CRW → Nat → List (Int × Nat)
  | 0, _, _ => []
  | f + 1, w, ch => if (nW : Int) ≤ w.2.2.2.2.1 then [(w.2.2.2.2.2, ch)] else match wroll rn W w with
    | none => []
    | some (b, t, p, s) => (if 0 < b.2.2.2.1 then wlv rn nW W f (leaveR rn W w b t p s 1) (ch + 2 ^ w.2.1.toNat) else []) ++ wlv rn nW W f (leaveR rn W w b t p s 0) ch
def updW (st x : Int × Nat) : Int × Nat := if x.1 < st.1 then x else st
def wearF (rn : RUN) (nW : Nat) (W : Nat → Int) : Nat → CRW → Nat → Int × Nat → Int × Nat
  | 0, _, _, st => st
  | f + 1, w, ch, st => if (nW : Int) ≤ w.2.2.2.2.1 then (w.2.2.2.2.2, ch) else match wroll rn W w with
    | none => st
    | some (b, t, p, s) => if w.2.2.2.2.2 < (if 0 < b.2.2.2.1 ∧ w.2.2.2.2.2 + 1 < st.1 then wearF rn nW W f (leaveR rn W w b t p s 1) (ch + 2 ^ w.2.1.toNat) st else st).1 then wearF rn nW W f (leaveR rn W w b t p s 0) ch (if 0 < b.2.2.2.1 ∧ w.2.2.2.2.2 + 1 < st.1 then wearF rn nW W f (leaveR rn W w b t p s 1) (ch + 2 ^ w.2.1.toNat) st else st) else (if 0 < b.2.2.2.1 ∧ w.2.2.2.2.2 + 1 < st.1 then wearF rn nW W f (leaveR rn W w b t p s 1) (ch + 2 ^ w.2.1.toNat) st else st)
theorem wlv_ge {rn : RUN} {nW : Nat} {W : Nat → Int} : ∀ (f : Nat) (w : CRW) (ch : Nat) (x : Int × Nat), x ∈ wlv rn nW W f w ch → w.2.2.2.2.2 ≤ x.1
  | 0, _, _, _, h => by cases h
  | f + 1, w, ch, x, h => by
    unfold wlv at h
    by_cases q : (nW : Int) ≤ w.2.2.2.2.1
    · rw [if_pos q] at h
      rw [List.mem_singleton.mp h]
      exact Int.le_refl _
    · rw [if_neg q] at h
      cases hr : wroll rn W w with
      | none => rw [hr] at h; cases h
      | some y =>
        obtain ⟨b, t, p, s⟩ := y
        rw [hr] at h
        dsimp only at h
        rcases List.mem_append.mp h with h | h
        · split at h
          · have := wlv_ge f _ _ x h
            have e : (leaveR rn W w b t p s 1).2.2.2.2.2 = w.2.2.2.2.2 + 1 := rfl
            omega
          · cases h
        · have := wlv_ge f _ _ x h
          have e : (leaveR rn W w b t p s 0).2.2.2.2.2 = w.2.2.2.2.2 + 0 := rfl
          omega
theorem updW_ge : ∀ (l : List (Int × Nat)) (st : Int × Nat), (∀ x ∈ l, st.1 ≤ x.1) → l.foldl updW st = st
  | [], _, _ => rfl
  | x :: l, st, h => by
    have h1 := h x List.mem_cons_self
    rw [List.foldl_cons, show updW st x = st from if_neg (by omega)]
    exact updW_ge l st (fun y hy => h y (List.mem_cons_of_mem _ hy))
/-- pruned or not, the search finds the same -/
theorem wearF_eq {rn : RUN} {nW : Nat} {W : Nat → Int} : ∀ (f : Nat) (w : CRW) (ch : Nat) (st : Int × Nat), w.2.2.2.2.2 < st.1 → wearF rn nW W f w ch st = (wlv rn nW W f w ch).foldl updW st
  | 0, _, _, _, _ => rfl
  | f + 1, w, ch, st, h => by
    unfold wearF wlv
    by_cases q : (nW : Int) ≤ w.2.2.2.2.1
    · rw [if_pos q, if_pos q, List.foldl_cons, List.foldl_nil]
      exact (if_pos h).symm
    · rw [if_neg q, if_neg q]
      cases hr : wroll rn W w with
      | none => rfl
      | some y =>
        obtain ⟨b, t, p, s⟩ := y
        dsimp only
        rw [List.foldl_append]
        have h1 : (if 0 < b.2.2.2.1 ∧ w.2.2.2.2.2 + 1 < st.1 then wearF rn nW W f (leaveR rn W w b t p s 1) (ch + 2 ^ w.2.1.toNat) st else st) = (if 0 < b.2.2.2.1 then wlv rn nW W f (leaveR rn W w b t p s 1) (ch + 2 ^ w.2.1.toNat) else []).foldl updW st := by
          by_cases z : 0 < b.2.2.2.1
          · rw [if_pos z]
            by_cases z2 : w.2.2.2.2.2 + 1 < st.1
            · rw [if_pos ⟨z, z2⟩]
              exact wearF_eq f _ _ st z2
            · rw [if_neg (fun y => z2 y.2)]
              refine (updW_ge _ st (fun x hx => ?_)).symm
              have := wlv_ge f _ _ x hx
              have e : (leaveR rn W w b t p s 1).2.2.2.2.2 = w.2.2.2.2.2 + 1 := rfl
              omega
          · rw [if_neg z, if_neg (fun y => z y.1)]
            rfl
        rw [h1]
        generalize (if 0 < b.2.2.2.1 then wlv rn nW W f (leaveR rn W w b t p s 1) (ch + 2 ^ w.2.1.toNat) else []).foldl updW st = st1
        have e : (leaveR rn W w b t p s 0).2.2.2.2.2 = w.2.2.2.2.2 := by show w.2.2.2.2.2 + 0 = _; omega
        by_cases z : w.2.2.2.2.2 < st1.1
        · rw [if_pos z]
          exact wearF_eq f _ _ st1 (by rw [e]; exact z)
        · rw [if_neg z]
          refine (updW_ge _ st1 (fun x hx => ?_)).symm
          have := wlv_ge f _ _ x hx
          omega

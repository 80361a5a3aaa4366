/-! A fall: class and reference follow the same ball. -/
def am_er : List Bool → LL → LL
  | [], L => L
  | _ :: _, [] => []
  | true :: m, x :: L => x :: am_er m L
  | false :: m, _ :: L => none :: am_er m L
theorem am_er_len : ∀ (m : List Bool) (L : LL), (am_er m L).length = L.length
  | [], L => rfl
  | _ :: _, [] => rfl
  | true :: m, x :: L => by show (am_er m L).length + 1 = L.length + 1; rw [am_er_len m L]
  | false :: m, _ :: L => by show (am_er m L).length + 1 = L.length + 1; rw [am_er_len m L]
theorem am_er_get : ∀ (m : List Bool) (L : LL) (i : Nat) (v : AV), (am_er m L)[i]? = some (some v) → L[i]? = some (some v)
  | [], L, i, v, h => h
  | _ :: _, [], i, v, h => h
  | true :: m, x :: L, 0, v, h => h
  | true :: m, x :: L, i + 1, v, h => am_er_get m L i v h
  | false :: m, _ :: L, 0, v, h => by cases h
  | false :: m, _ :: L, i + 1, v, h => am_er_get m L i v h
/-- forgets the locals where the list has false -/
theorem am_J.er (m : List Bool) {Γ : AMG} {M : MD} {Q : QQ} {d k n pc : Nat} {L : LL} {st : List AV} {I : II} {Lg : LJ} {R : RR} {G : GG} (h : am_J Γ M Q d k n pc (am_er m L) st I Lg R G) : am_J Γ M Q d k n pc L st I Lg R G :=
  am_J.drop (L' := am_er m L) (am_er_len m L) (am_er_get m L) h
theorem V1_sub {l l2 : List Nat} {p v i : Nat} (h : l.all (fun v => l2.elem v) = true) (hf : V1 l2 p v i = false) : V1 l p v i = false := by
  unfold V1 at hf ⊢
  cases he : l.elem v
  · rfl
  · have h1 := List.all_eq_true.mp h v (by simpa using he)
    rw [h1] at hf
    rw [← hf]
theorem V0_sub {l l2 : List Nat} {v i : Nat} (h : l.all (fun v => l2.elem v) = true) (hf : V0 l2 v i = false) : V0 l v i = false := by
  unfold V0 at hf ⊢
  cases he : l.elem v
  · rfl
  · have h1 := List.all_eq_true.mp h v (by simpa using he)
    rw [h1] at hf
    exact hf
/-- the knocks that are kept: tick, place, strength -/
abbrev KS : Type := List (Int × Int × Int)
def KAt (I : II) (vt vp vs i : Nat) (ks : KS) : Prop := ∀ (k : Nat) (e : Int × Int × Int), ks[k]? = some e → I vt i k = zI e.1 ∧ I vp i k = zI e.2.1 ∧ I vs i k = zI e.2.2
theorem KAt.fr {I I' : II} {vt vp vs i : Nat} {ks : KS} (h : KAt I vt vp vs i ks) (h1 : I' vt i = I vt i) (h2 : I' vp i = I vp i) (h3 : I' vs i = I vs i) : KAt I' vt vp vs i ks := by
  intro k e he
  obtain ⟨a, b, c⟩ := h k e he
  exact ⟨by rw [h1]; exact a, by rw [h2]; exact b, by rw [h3]; exact c⟩
theorem KAt.app {I I' : II} {vt vp vs i : Nat} {ks : KS} {e : Int × Int × Int} (h : KAt I vt vp vs i ks) (h1 : ∀ k, I' vt i k = if k = ks.length then zI e.1 else I vt i k) (h2 : ∀ k, I' vp i k = if k = ks.length then zI e.2.1 else I vp i k) (h3 : ∀ k, I' vs i k = if k = ks.length then zI e.2.2 else I vs i k) : KAt I' vt vp vs i (ks ++ [e]) := by
  intro k e' he
  rw [h1, h2, h3]
  by_cases hk : k = ks.length
  · subst hk
    rw [List.getElem?_append_right (Nat.le_refl _), Nat.sub_self] at he
    cases he
    rw [if_pos rfl, if_pos rfl, if_pos rfl]
    exact ⟨rfl, rfl, rfl⟩
  · rw [if_neg hk, if_neg hk, if_neg hk]
    have hlt : k < ks.length := by
      have := (List.getElem?_eq_some_iff.mp he).1
      rw [List.length_append] at this
      simp at this
      omega
    rw [List.getElem?_append_left hlt] at he
    exact h k e' he
abbrev FS : Type := Int × Int × Int × Int × Int × Int × KS
abbrev FS.pl (S : FS) : Int := S.1
abbrev FS.pt (S : FS) : Int := S.2.1
abbrev FS.sp (S : FS) : Int := S.2.2.1
abbrev FS.jm (S : FS) : Int := S.2.2.2.1
abbrev FS.fa (S : FS) : Int := S.2.2.2.2.1
abbrev FS.en (S : FS) : Int := S.2.2.2.2.2.1
abbrev FS.ks (S : FS) : KS := S.2.2.2.2.2.2
def fstep (rn : RUN) (g : Int32) (ls : Nat → Int) (t : Int) (S : FS) : FS :=
  ((tickB rn g ls S.pl S.pt S.sp).1, (tickB rn g ls S.pl S.pt S.sp).2.1, (tickB rn g ls S.pl S.pt S.sp).2.2.1, S.jm + (tickB rn g ls S.pl S.pt S.sp).2.2.2.2, max S.fa (tickB rn g ls S.pl S.pt S.sp).2.2.1, (if (tickB rn g ls S.pl S.pt S.sp).1 = 255 then t else -1), (if 0 < (tickB rn g ls S.pl S.pt S.sp).2.2.2.1 then S.ks ++ [(t, S.pl, (tickB rn g ls S.pl S.pt S.sp).2.2.2.1)] else S.ks))
def foll (rn : RUN) (g : Int32) (ls : Nat → Int) : Nat → Int → FS → FS
  | 0, _, S => S
  | f + 1, t, S => if S.en = -1 then foll rn g ls f (t + 1) (fstep rn g ls t S) else S
def FS0 : FS := (0, 0, 0, 0, 0, -1, [])
def fall9 (rn : RUN) (g : Int32) (ls : Nat → Int) : FS := foll rn g ls 2000 1 FS0
def BSok2 (rn : RUN) (pl pt sp : Int) : Prop := BSok rn pl pt sp ∧ ∀ e, rn[pl.toNat]? = some e → pt < e.1.1
def LSok (ls : Nat → Int) : Prop := ∀ p, 0 ≤ ls p ∧ ls p ≤ 1
theorem nx_ok {rn : RUN} {g : Int32} {p : Int} {e : BD × Int × Int} (hrn : RUNok rn) (h0 : 0 ≤ p) (he : rn[p.toNat]? = some e) : nx rn g p = 255 ∨ (p < nx rn g p ∧ nx rn g p < rn.length) := by
  obtain ⟨-, q2, q3⟩ := hrn.2 _ e he
  unfold goOk at q2 q3
  unfold nx
  rw [he]
  dsimp only
  split <;> omega
theorem land_ok {rn : RUN} {g : Int32} (hrn : RUNok rn) : ∀ (f : Nat) (p t : Int), (p = 255 ∨ (0 ≤ p ∧ p < rn.length ∧ 12 ≤ p + f)) → 0 ≤ t → (land rn g f p t).1 = 255 ∨ (p ≤ (land rn g f p t).1 ∧ (land rn g f p t).1 < rn.length ∧ 0 ≤ (land rn g f p t).2.1 ∧ ∃ e, rn[(land rn g f p t).1.toNat]? = some e ∧ (land rn g f p t).2.1 < e.1.1)
  | 0, p, t, h, h0 => by
    have := hrn.1
    unfold land
    dsimp only
    omega
  | f + 1, p, t, h, h0 => by
    have hl := hrn.1
    unfold land
    rcases h with h | h
    · rw [List.getElem?_eq_none (by omega)]
      exact Or.inl h
    · have he : rn[p.toNat]? = some rn[p.toNat] := List.getElem?_eq_getElem (by omega)
      generalize rn[p.toNat] = e at he
      rw [he]
      dsimp only
      by_cases ht : t < e.1.1
      · rw [if_pos ht]
        exact Or.inr ⟨Int.le_refl _, h.2.1, h0, e, he, ht⟩
      · rw [if_neg ht]
        dsimp only
        have hx := nx_ok (g := g) hrn h.1 he
        rcases land_ok (g := g) hrn f (nx rn g p) (t - e.1.1) (by omega) (by omega) with q | q
        · exact Or.inl q
        · refine Or.inr ⟨?_, q.2.1, q.2.2⟩
          have := q.1
          have := q.2.1
          omega
theorem tickB_ok {rn : RUN} {g : Int32} {ls : Nat → Int} {pl pt sp : Int} (hrn : RUNok rn) (hls : LSok ls) (h : BSok2 rn pl pt sp) :
    ((tickB rn g ls pl pt sp).1 = 255 ∨ BSok2 rn (tickB rn g ls pl pt sp).1 (tickB rn g ls pl pt sp).2.1 (tickB rn g ls pl pt sp).2.2.1) ∧ 0 ≤ (tickB rn g ls pl pt sp).2.2.1 ∧ (tickB rn g ls pl pt sp).2.2.1 ≤ 1023 ∧ 0 ≤ (tickB rn g ls pl pt sp).2.2.2.1 ∧ (tickB rn g ls pl pt sp).2.2.2.1 ≤ 143 ∧ ((tickB rn g ls pl pt sp).1 = 255 ∨ pl ≤ (tickB rn g ls pl pt sp).1) ∧ (0 < (tickB rn g ls pl pt sp).2.2.2.1 → (tickB rn g ls pl pt sp).1 = 255 ∨ pl < (tickB rn g ls pl pt sp).1) := by
  obtain ⟨⟨p0, p1, t0, t1, s0, s1⟩, h2⟩ := h
  have hl := hrn.1
  have he : rn[pl.toNat]? = some rn[pl.toNat] := List.getElem?_eq_getElem (by omega)
  generalize rn[pl.toNat] = e at he
  have hpt := h2 e he
  have hbk := (hrn.2 _ e he).1
  have hsp := spd_rng (s := sp) hbk
  have hb1 := hbk.2.1
  unfold tickB
  rw [he]
  dsimp only
  by_cases ht : pt + spd e.1 sp < e.1.1
  · rw [if_pos ht]
    dsimp only
    refine ⟨Or.inr ⟨⟨p0, p1, by omega, by omega, hsp.1, hsp.2⟩, fun e' he' => ?_⟩, hsp.1, hsp.2, by omega, by omega, by omega, by omega⟩
    rw [he] at he'
    cases he'
    exact ht
  · rw [if_neg ht]
    dsimp only
    have hlss := hls pl.toNat
    have b8 := hbk.2.2.2.2.2.2.1
    have b9 := hbk.2.2.2.2.2.2.2.1
    generalize hdr : max 0 (e.1.2.2.2.1 - ls pl.toNat) = dr
    have hd0 : 0 ≤ dr := by omega
    have hd1 : dr ≤ 9 := by omega
    have hlv := lvS_rng hbk hsp.1
    have hP := lvP_rng hbk hd0 hd1 hsp.1 hsp.2 (by omega : e.1.1 ≤ pt + spd e.1 sp) (by omega)
    have hdd := dr_rng hd0 hd1 hsp.1 hsp.2
    have hx := nx_ok (g := g) hrn p0 he
    have hla := land_ok (g := g) hrn 12 (nx rn g pl) (lvP e.1 dr (pt + spd e.1 sp) (spd e.1 sp)) (by omega) hP.1
    refine ⟨?_, hlv.1, by omega, by unfold lvK; omega, by unfold lvK; omega, ?_, fun _ => ?_⟩
    · rcases hla with q | ⟨q1, q2, q3, e', q4, q5⟩
      · exact Or.inl q
      · have hb' := (hrn.2 _ e' q4).1.2.1
        refine Or.inr ⟨⟨by omega, q2, q3, by omega, hlv.1, by omega⟩, fun e2 he2 => ?_⟩
        rw [q4] at he2
        cases he2
        exact q5
    · omega
    · omega
def FSok (rn : RUN) (S : FS) : Prop := (S.en = -1 → BSok2 rn S.pl S.pt S.sp ∧ (S.ks.length : Int) ≤ S.pl) ∧ S.ks.length ≤ 12 ∧ 0 ≤ S.fa ∧ S.fa ≤ 1023
theorem fstep_ok {rn : RUN} {g : Int32} {ls : Nat → Int} {t : Int} {S : FS} (hrn : RUNok rn) (hls : LSok ls) (ht : 1 ≤ t) (hen : S.en = -1) (h : FSok rn S) : FSok rn (fstep rn g ls t S) := by
  obtain ⟨h1, h2, h3, h4⟩ := h
  obtain ⟨hb, hk⟩ := h1 hen
  obtain ⟨q1, q2, q3, q4, q5, q6, q7⟩ := tickB_ok (g := g) hrn hls hb
  have hl := hrn.1
  obtain ⟨⟨p0, p1, -⟩, -⟩ := hb
  have e1 : (fstep rn g ls t S).en = if (tickB rn g ls S.pl S.pt S.sp).1 = 255 then t else -1 := rfl
  have e2 : (fstep rn g ls t S).ks = if 0 < (tickB rn g ls S.pl S.pt S.sp).2.2.2.1 then S.ks ++ [(t, S.pl, (tickB rn g ls S.pl S.pt S.sp).2.2.2.1)] else S.ks := rfl
  have e3 : (fstep rn g ls t S).fa = max S.fa (tickB rn g ls S.pl S.pt S.sp).2.2.1 := rfl
  refine ⟨fun hx => ?_, ?_, ?_, ?_⟩
  · rw [e1] at hx
    by_cases h255 : (tickB rn g ls S.pl S.pt S.sp).1 = 255
    · rw [if_pos h255] at hx
      omega
    · refine ⟨q1.resolve_left h255, ?_⟩
      rw [e2]
      show _ ≤ (tickB rn g ls S.pl S.pt S.sp).1
      split
      · next q =>
        rw [List.length_append]
        have := q7 q
        simp
        omega
      · omega
  · rw [e2]
    split
    · rw [List.length_append]
      simp
      omega
    · omega
  · rw [e3]; omega
  · rw [e3]; omega
theorem foll_end {rn : RUN} {g : Int32} {ls : Nat → Int} {S : FS} (h : S.en ≠ -1) : ∀ (f : Nat) (t : Int), foll rn g ls f t S = S
  | 0, _ => rfl
  | f + 1, t => by unfold foll; rw [if_neg h]
theorem fstep_rest {rn : RUN} {g : Int32} {ls : Nat → Int} {S : FS} {t : Int} {e : BD × Int × Int} (he : rn[S.pl.toNat]? = some e) (hpt : S.pt < e.1.1) (hsp : S.sp = 0) (h0 : spd e.1 0 = 0) (hen : S.en = -1) (hfa : 0 ≤ S.fa) (hpl : S.pl ≠ 255) : fstep rn g ls t S = S := by
  have e1 : tickB rn g ls S.pl S.pt S.sp = (S.pl, S.pt, 0, 0, 0) := by
    unfold tickB
    rw [he]
    dsimp only
    rw [hsp, h0, Int.add_zero, if_pos hpt]
  unfold fstep
  rw [e1]
  show (S.pl, S.pt, 0, S.jm + ((0 : Nat) : Int), max S.fa 0, (if S.pl = 255 then t else -1), (if (0 : Int) < 0 then S.ks ++ [(t, S.pl, 0)] else S.ks)) = S
  rw [if_neg hpl, if_neg (by omega), Int.max_eq_left hfa, ← hsp, ← hen]
  show (S.1, S.2.1, S.2.2.1, S.2.2.2.1 + 0, S.2.2.2.2.1, S.2.2.2.2.2.1, S.2.2.2.2.2.2) = S
  rw [Int.add_zero]
theorem foll_rest {rn : RUN} {g : Int32} {ls : Nat → Int} {S : FS} {e : BD × Int × Int} (he : rn[S.pl.toNat]? = some e) (hpt : S.pt < e.1.1) (hsp : S.sp = 0) (h0 : spd e.1 0 = 0) (hen : S.en = -1) (hfa : 0 ≤ S.fa) (hpl : S.pl ≠ 255) : ∀ (f : Nat) (t : Int), foll rn g ls f t S = S
  | 0, _ => rfl
  | f + 1, t => by
    unfold foll
    rw [if_pos hen, fstep_rest he hpt hsp h0 hen hfa hpl]
    exact foll_rest he hpt hsp h0 hen hfa hpl f (t + 1)

/-! A night: the balls, in numbers. -/
/-- a ball of the night: run, place, part, speed -/
abbrev NB : Type := Int × Int × Int × Int
def NBok (rn : Nat → RUN) (b : NB) : Prop := 0 ≤ b.1 ∧ b.1 < 4 ∧ 0 < (rn b.1.toNat).length ∧ 0 ≤ b.2.2.1 ∧ b.2.2.1 ≤ 12000 ∧ 0 ≤ b.2.2.2 ∧ b.2.2.2 ≤ 1023 ∧ (b.2.1 = 255 ∨ BSok2 (rn b.1.toNat) b.2.1 b.2.2.1 b.2.2.2)
def stpB (rn : Nat → RUN) (gs : Nat → Int32) (b : NB) : NB := if b.2.1 = 255 then b else (b.1, (tickB (rn b.1.toNat) (gs b.1.toNat) nols b.2.1 b.2.2.1 b.2.2.2).1, (tickB (rn b.1.toNat) (gs b.1.toNat) nols b.2.1 b.2.2.1 b.2.2.2).2.1, (tickB (rn b.1.toNat) (gs b.1.toNat) nols b.2.1 b.2.2.1 b.2.2.2).2.2.1)
def stpS (rn : Nat → RUN) (gs : Nat → Int32) (b : NB) : Int := if b.2.1 = 255 then 0 else (tickB (rn b.1.toNat) (gs b.1.toNat) nols b.2.1 b.2.2.1 b.2.2.2).2.2.2.1
theorem NBok.pl {rn : Nat → RUN} {b : NB} (hrn : RNSok rn) (h : NBok rn b) : 0 ≤ b.2.1 ∧ b.2.1 ≤ 255 := by
  obtain ⟨h1, h2, -, -, -, -, -, h3⟩ := h
  have := (hrn b.1.toNat (by omega)).1
  rcases h3 with h3 | ⟨⟨h4, h5, -⟩, -⟩
  · omega
  · omega
theorem tickB_pt {rn : RUN} {g : Int32} {ls : Nat → Int} {pl pt sp : Int} (hrn : RUNok rn) (hls : LSok ls) (h : BSok2 rn pl pt sp) : 0 ≤ (tickB rn g ls pl pt sp).2.1 ∧ (tickB rn g ls pl pt sp).2.1 ≤ 12000 := by
  obtain ⟨⟨h0, h1, h2, h3, h4, h5⟩, h6⟩ := h
  have hl := hrn.1
  have he : rn[pl.toNat]? = some rn[pl.toNat] := List.getElem?_eq_getElem (by omega)
  generalize rn[pl.toNat] = e at he
  have hbd := (hrn.2 _ e he).1
  have hsp := spd_rng (s := sp) hbd
  have hd := hls pl.toNat
  have hdr := hbd.2.2.2.2.2.2
  unfold tickB
  rw [he]
  dsimp only
  split
  · dsimp only; omega
  · next hc =>
    dsimp only
    have hP := lvP_rng (dr := max 0 (e.1.2.2.2.1 - ls pl.toNat)) (s := spd e.1 sp) (p := pt + spd e.1 sp) hbd (by omega) (by omega) hsp.1 hsp.2 (by omega) (by omega)
    have hn := nx_255 (g := g) (p := pl) hrn
    have hla := land_rng (g := g) hrn 12 (nx rn g pl) (lvP e.1 (max 0 (e.1.2.2.2.1 - ls pl.toNat)) (pt + spd e.1 sp) (spd e.1 sp)) hn.1 hn.2 hP.1
    omega
theorem stp_ok {rn : Nat → RUN} {gs : Nat → Int32} {b : NB} (hrn : RNSok rn) (h : NBok rn b) : NBok rn (stpB rn gs b) ∧ 0 ≤ stpS rn gs b ∧ stpS rn gs b ≤ 143 := by
  obtain ⟨h1, h2, h3, h4, h5, h6, h7, h8⟩ := id h
  unfold stpB stpS
  by_cases hc : b.2.1 = 255
  · rw [if_pos hc, if_pos hc]
    exact ⟨h, by omega, by omega⟩
  · rw [if_neg hc, if_neg hc]
    have hb := h8.resolve_left hc
    have hr := hrn b.1.toNat (by omega)
    obtain ⟨q1, q2, q3, q4, q5, q6, q7⟩ := tickB_ok (g := gs b.1.toNat) hr nols_ok hb
    have hp := tickB_pt (g := gs b.1.toNat) hr nols_ok hb
    exact ⟨⟨h1, h2, h3, hp.1, hp.2, q2, q3, q1⟩, q4, q5⟩
theorem stpB_run {rn : Nat → RUN} {gs : Nat → Int32} {b : NB} : (stpB rn gs b).1 = b.1 := by
  unfold stpB
  split <;> rfl
/-- a ball that stays on its place goes on by its speed -/
theorem stp_stay {rn : Nat → RUN} {gs : Nat → Int32} {b : NB} (hrn : RNSok rn) (h : NBok rn b) (hc : b.2.1 ≠ 255) (hs : (stpB rn gs b).2.1 = b.2.1) : (stpB rn gs b).2.2.1 = b.2.2.1 + (stpB rn gs b).2.2.2 := by
  obtain ⟨h1, h2, h3, h4, h5, h6, h7, h8⟩ := id h
  unfold stpB at hs ⊢
  rw [if_neg hc] at hs ⊢
  have hb := h8.resolve_left hc
  have hr := hrn b.1.toNat (by omega)
  dsimp only at hs ⊢
  obtain ⟨⟨g0, g1, g2, g3, g4, g5⟩, g6⟩ := hb
  have hl := hr.1
  have he : (rn b.1.toNat)[b.2.1.toNat]? = some (rn b.1.toNat)[b.2.1.toNat] := List.getElem?_eq_getElem (by omega)
  generalize (rn b.1.toNat)[b.2.1.toNat] = e at he
  have hbd := (hr.2 _ e he).1
  have hsp := spd_rng (s := b.2.2.2) hbd
  have hdr := hbd.2.2.2.2.2.2
  have hn1 := nx_ok (g := gs b.1.toNat) hr g0 he
  unfold tickB at hs ⊢
  rw [he] at hs ⊢
  dsimp only at hs ⊢
  split at hs
  · next q => rw [if_pos q]
  · next q =>
    have hd0 : nols b.2.1.toNat = 0 := rfl
    rw [hd0] at hs
    have hP := lvP_rng (dr := max 0 (e.1.2.2.2.1 - 0)) (s := spd e.1 b.2.2.2) (p := b.2.2.1 + spd e.1 b.2.2.2) hbd (by omega) (by omega) hsp.1 hsp.2 (by omega) (by omega)
    dsimp only at hs
    have hla := land_ok (g := gs b.1.toNat) hr 12 (nx (rn b.1.toNat) (gs b.1.toNat) b.2.1) (lvP e.1 (max 0 (e.1.2.2.2.1 - 0)) (b.2.2.1 + spd e.1 b.2.2.2) (spd e.1 b.2.2.2)) (by omega) hP.1
    exfalso
    rcases hla with hla | ⟨hla, -⟩
    · rw [hs] at hla; exact hc hla
    · rw [hs] at hla; omega
/-- at rest, for good -/
def NBrest (rn : Nat → RUN) (b : NB) : Prop := b.2.1 = 255 ∨ (b.2.2.2 = 0 ∧ ∀ e, (rn b.1.toNat)[b.2.1.toNat]? = some e → spd e.1 0 = 0)
theorem stp_rest {rn : Nat → RUN} {gs : Nat → Int32} {b : NB} (hrn : RNSok rn) (h : NBok rn b) (hr : NBrest rn b) : stpB rn gs b = b ∧ stpS rn gs b = 0 := by
  obtain ⟨h1, h2, h3, h4, h5, h6, h7, h8⟩ := id h
  unfold stpB stpS
  by_cases hc : b.2.1 = 255
  · rw [if_pos hc, if_pos hc]
    exact ⟨rfl, rfl⟩
  · rw [if_neg hc, if_neg hc]
    obtain ⟨r1, r2⟩ := hr.resolve_left hc
    obtain ⟨⟨g0, g1, g2, g3, g4, g5⟩, g6⟩ := h8.resolve_left hc
    have hl := (hrn b.1.toNat (by omega)).1
    have he : (rn b.1.toNat)[b.2.1.toNat]? = some (rn b.1.toNat)[b.2.1.toNat] := List.getElem?_eq_getElem (by omega)
    generalize (rn b.1.toNat)[b.2.1.toNat] = e at he
    have e1 : tickB (rn b.1.toNat) (gs b.1.toNat) nols b.2.1 b.2.2.1 b.2.2.2 = (b.2.1, b.2.2.1, 0, 0, 0) := by
      unfold tickB
      rw [he]
      dsimp only
      rw [r1, r2 e he, Int.add_zero, if_pos (g6 e he)]
    rw [e1]
    refine ⟨?_, rfl⟩
    show (b.1, b.2.1, b.2.2.1, 0) = b
    rw [← r1]
theorem stp_zero {rn : Nat → RUN} {gs : Nat → Int32} {b : NB} (hrn : RNSok rn) (h : NBok rn b) (hp : (stpB rn gs b).2.1 ≠ 255) (hz : (stpB rn gs b).2.2.2 = 0) : NBrest rn (stpB rn gs b) := by
  obtain ⟨h1, h2, h3, h4, h5, h6, h7, h8⟩ := id h
  by_cases hc : b.2.1 = 255
  · exfalso
    unfold stpB at hp
    rw [if_pos hc] at hp
    exact hp hc
  refine Or.inr ⟨hz, ?_⟩
  rw [stpB_run]
  intro e2 he2
  have hr := hrn b.1.toNat (by omega)
  have hl := hr.1
  unfold stpB at hp hz he2
  rw [if_neg hc] at hp hz he2
  dsimp only at hp hz he2
  obtain ⟨⟨g0, g1, g2, g3, g4, g5⟩, g6⟩ := h8.resolve_left hc
  have he : (rn b.1.toNat)[b.2.1.toNat]? = some (rn b.1.toNat)[b.2.1.toNat] := List.getElem?_eq_getElem (by omega)
  generalize (rn b.1.toNat)[b.2.1.toNat] = e at he
  have hbd := (hr.2 _ e he).1
  have hsp := spd_rng (s := b.2.2.2) hbd
  have hlt := g6 e he
  unfold tickB at hz he2
  rw [he] at hz he2
  dsimp only at hz he2
  split at hz
  · next q =>
    rw [if_pos q] at he2
    dsimp only at hz he2
    rw [he] at he2
    cases he2
    exact spd_z hbd g4 hz
  · next q =>
    exfalso
    dsimp only at hz
    have := (lvS_rng (s := spd e.1 b.2.2.2) hbd hsp.1).2.2 (by omega)
    omega
/-! What is told of a night. -/
abbrev NST : Type := NT × KS
def hearN (S : NST) (e : Int × Int × Int) : NST := (hearT S.1 e.2.2, hearK S.2 e)
def endN (S : NST) : NST := ((S.1.1, S.1.2.1 + zI 1, S.1.2.2), S.2)
def bumpN (S : NST) : NST := ((S.1.1, S.1.2.1, S.1.2.2.1 + zI 1, S.1.2.2.2), S.2)
def letN (S : NST) : NST := ((S.1.1 + zI 1, S.1.2), S.2)
def rollN1 (rn : Nat → RUN) (gs : Nat → Int32) (tk : Int) (b : NB) (S : NST) : NST := if 0 < stpS rn gs b then hearN S (tk, 100 * b.1 + b.2.1 + 100, stpS rn gs b) else S
def rollN (rn : Nat → RUN) (gs : Nat → Int32) (tk : Int) (b : NB) (S : NST) : NST := if b.2.1 ≠ 255 ∧ (stpB rn gs b).2.1 = 255 then endN (rollN1 rn gs tk b S) else rollN1 rn gs tk b S
def rollL (rn : Nat → RUN) (gs : Nat → Int32) (tk : Int) : List NB → NST → NST
  | [], S => S
  | b :: r, S => rollL rn gs tk r (rollN rn gs tk b S)
/-- two balls, as they were and as they are: they bump -/
def bmpC (a b : NB × NB) : Bool := decide (a.1.1 = b.1.1 ∧ a.1.2.1 ≠ 255 ∧ a.1.2.1 = b.1.2.1 ∧ a.2.2.1 = a.1.2.1 ∧ b.2.2.1 = a.1.2.1 ∧ ((a.1.2.2.1 < b.1.2.2.1 ∧ b.2.2.2.1 < a.2.2.2.1) ∨ (b.1.2.2.1 < a.1.2.2.1 ∧ a.2.2.2.1 < b.2.2.2.1)))
def bmpV (a b : NB × NB) : Int := ((a.2.2.2.2 - b.2.2.2.2).natAbs : Int) / 16
def bmpN (tk : Int) (a b : NB × NB) (S : NST) : NST := if bmpC a b = true then (if 0 < bmpV a b then hearN (bumpN S) (tk, 900 + a.1.1, bmpV a b) else bumpN S) else S
def bmpI (tk : Int) (a : NB × NB) : List (NB × NB) → NST → NST
  | [], S => S
  | b :: r, S => bmpI tk a r (bmpN tk a b S)
def bmpL (tk : Int) : List (NB × NB) → NST → NST
  | [], S => S
  | a :: r, S => bmpL tk r (bmpI tk a r S)
def prN (rn : Nat → RUN) (gs : Nat → Int32) (B : List NB) : List (NB × NB) := B.map (fun b => (b, stpB rn gs b))
theorem rollL_rest {rn : Nat → RUN} {gs : Nat → Int32} {tk : Int} (hrn : RNSok rn) : ∀ (B : List NB) (S : NST), (∀ b ∈ B, NBok rn b ∧ NBrest rn b) → rollL rn gs tk B S = S
  | [], _, _ => rfl
  | b :: r, S, h => by
    obtain ⟨h1, h2⟩ := h b List.mem_cons_self
    obtain ⟨e1, e2⟩ := stp_rest (gs := gs) hrn h1 h2
    have e3 : rollN rn gs tk b S = S := by
      unfold rollN rollN1
      rw [e1, e2, if_neg (fun q => q.1 q.2), if_neg (by omega)]
    unfold rollL
    rw [e3]
    exact rollL_rest hrn r S (fun x hx => h x (List.mem_cons_of_mem _ hx))
theorem bmpI_no {tk : Int} {a : NB × NB} : ∀ (l : List (NB × NB)) (S : NST), (∀ b ∈ l, bmpC a b = false) → bmpI tk a l S = S
  | [], _, _ => rfl
  | b :: r, S, h => by
    unfold bmpI bmpN
    rw [if_neg (by rw [h b List.mem_cons_self]; decide)]
    exact bmpI_no r S (fun x hx => h x (List.mem_cons_of_mem _ hx))
theorem bmpL_no {tk : Int} : ∀ (l : List (NB × NB)) (S : NST), (∀ a ∈ l, ∀ b ∈ l, bmpC a b = false) → bmpL tk l S = S
  | [], _, _ => rfl
  | a :: r, S, h => by
    unfold bmpL
    rw [bmpI_no r S (fun b hb => h a List.mem_cons_self b (List.mem_cons_of_mem _ hb))]
    exact bmpL_no r S (fun x hx y hy => h x (List.mem_cons_of_mem _ hx) y (List.mem_cons_of_mem _ hy))
theorem prN_rest {rn : Nat → RUN} {gs : Nat → Int32} (hrn : RNSok rn) {B : List NB} (h : ∀ b ∈ B, NBok rn b ∧ NBrest rn b) : B.map (stpB rn gs) = B ∧ ∀ a ∈ prN rn gs B, ∀ b ∈ prN rn gs B, bmpC a b = false := by
  have e1 : ∀ b ∈ B, stpB rn gs b = b := fun b hb => (stp_rest hrn (h b hb).1 (h b hb).2).1
  refine ⟨?_, fun a ha b hb => ?_⟩
  · rw [List.map_congr_left e1, List.map_id'']
    exact fun _ => rfl
  · unfold prN at ha hb
    obtain ⟨x, hx, rfl⟩ := List.mem_map.mp ha
    obtain ⟨y, hy, rfl⟩ := List.mem_map.mp hb
    unfold bmpC
    dsimp only
    rw [e1 x hx, e1 y hy]
    refine decide_eq_false (fun q => ?_)
    obtain ⟨-, -, -, -, -, q⟩ := q
    omega
/-- balls of one speed don't bump -/
theorem prN_alike {rn : Nat → RUN} {gs : Nat → Int32} (hrn : RNSok rn) {B : List NB} (h : ∀ b ∈ B, NBok rn b) (s : Int) (hs : ∀ b ∈ B, (stpB rn gs b).2.1 ≠ 255 → (stpB rn gs b).2.2.2 = s) : ∀ a ∈ prN rn gs B, ∀ b ∈ prN rn gs B, bmpC a b = false := by
  intro a ha b hb
  unfold prN at ha hb
  obtain ⟨x, hx, rfl⟩ := List.mem_map.mp ha
  obtain ⟨y, hy, rfl⟩ := List.mem_map.mp hb
  unfold bmpC
  dsimp only
  refine decide_eq_false (fun q => ?_)
  obtain ⟨-, q1, q2, q3, q4, q⟩ := q
  have u1 := stp_stay (gs := gs) hrn (h x hx) q1 q3
  have u2 := stp_stay (gs := gs) hrn (h y hy) (by omega) (by omega)
  have v1 := hs x hx (by omega)
  have v2 := hs y hy (by omega)
  omega

/-! What is laid, by the reference: a fall of the boards one behind another, and how far it is from what was wished. -/
def costK (nW : Nat) (W : Nat → Int) (i : Nat) (t : Int) : Int := if (i : Int) < nW then ((t - W i).natAbs : Int) else 100
def sumT (nW : Nat) (W : Nat → Int) : KS → Nat → Int
  | [], _ => 0
  | e :: ks, i => costK nW W i e.1 + sumT nW W ks (i + 1)
theorem sumT_app {nW : Nat} {W : Nat → Int} {e : Int × Int × Int} : ∀ (ks : KS) (i : Nat), sumT nW W (ks ++ [e]) i = sumT nW W ks i + costK nW W (i + ks.length) e.1
  | [], i => by
    show costK nW W i e.1 + 0 = 0 + costK nW W (i + 0) e.1
    rw [Int.add_zero, Int.zero_add, Nat.add_zero]
  | x :: ks, i => by
    show costK nW W i x.1 + sumT nW W (ks ++ [e]) (i + 1) = costK nW W i x.1 + sumT nW W ks (i + 1) + costK nW W (i + (ks.length + 1)) e.1
    rw [sumT_app ks (i + 1), Int.add_assoc, show i + 1 + ks.length = i + (ks.length + 1) by omega]
def errT (nW : Nat) (W : Nat → Int) (ks : KS) : Int := errV nW ks.length (sumT nW W ks 0)
/-- a board behind another -/
def rnL (bds : List BD) (s : List Nat) : RUN := (List.range s.length).map (fun k => (bdA bds (s.getD k 0 : Nat), (if k + 1 = s.length then 255 else ((k + 1 : Nat) : Int)), (if k + 1 = s.length then 255 else ((k + 1 : Nat) : Int))))
theorem rnL_get {bds : List BD} {s : List Nat} {k : Nat} (h : k < s.length) : (rnL bds s)[k]? = some (bdA bds (s.getD k 0 : Nat), (if k + 1 = s.length then 255 else ((k + 1 : Nat) : Int)), (if k + 1 = s.length then 255 else ((k + 1 : Nat) : Int))) := by
  unfold rnL
  rw [List.getElem?_map, List.getElem?_range h]
  rfl
theorem rnL_len {bds : List BD} {s : List Nat} : (rnL bds s).length = s.length := by unfold rnL; rw [List.length_map, List.length_range]
theorem rnL_ok {bds : List BD} {s : List Nat} (hb : BDsok bds) (hs : s.length ≤ 12) (hin : ∀ c ∈ s, c < bds.length) : RUNok (rnL bds s) := by
  refine ⟨by rw [rnL_len]; exact hs, fun p e he => ?_⟩
  have hp : p < s.length := by
    have := (List.getElem?_eq_some_iff.mp he).1
    rwa [rnL_len] at this
  rw [rnL_get hp] at he
  cases he
  have hc : s.getD p 0 < bds.length := hin _ (by
    simp only [List.getD, List.getElem?_eq_getElem hp]
    exact List.getElem_mem hp)
  have hg : goOk (rnL bds s).length p (if p + 1 = s.length then 255 else ((p + 1 : Nat) : Int)) := by
    rw [rnL_len]
    unfold goOk
    split
    · exact Or.inl rfl
    · right; omega
  exact ⟨hb.2 _ _ (bdA_get (by omega) (by omega)), hg, hg⟩
theorem nx_eq {rn : RUN} {g : Int32} {p : Int} {e : BD × Int × Int} (he : rn[p.toNat]? = some e) (h : e.2.1 = e.2.2) : nx rn g p = e.2.1 := by
  unfold nx
  rw [he]
  dsimp only
  split
  · rfl
  · exact h.symm
/-- the state behind the tick in which a ball left place k -/
def leftS (rn : RUN) (g : Int32) (ls : Nat → Int) (k : Nat) (b : BD) (t p s jm fa : Int) (ks : KS) : FS :=
  ((land rn g 12 (nx rn g k) (lvP b (max 0 (b.2.2.2.1 - ls k)) p s)).1, (land rn g 12 (nx rn g k) (lvP b (max 0 (b.2.2.2.1 - ls k)) p s)).2.1, lvS b s, jm, fa, (if (land rn g 12 (nx rn g k) (lvP b (max 0 (b.2.2.2.1 - ls k)) p s)).1 = 255 then t else -1), (if 0 < lvK (max 0 (b.2.2.2.1 - ls k)) s then ks ++ [(t, (k : Int), lvK (max 0 (b.2.2.2.1 - ls k)) s)] else ks))
theorem foll_rol {rn : RUN} {g : Int32} {ls : Nat → Int} {k : Nat} {e : BD × Int × Int} {ks : KS} (he : rn[k]? = some e) (hk : k < 12) : ∀ (f : Nat) (t p s jm fa : Int),
    (rolE e.1 f t p s = none → (foll rn g ls f (t + 1) ((k : Int), p, s, jm, fa, -1, ks)).ks = ks) ∧
    (∀ t' p' s' : Int, rolE e.1 f t p s = some (t', p', s') → ∃ jm' fa' : Int, foll rn g ls f (t + 1) ((k : Int), p, s, jm, fa, -1, ks) = foll rn g ls (f - (t' - t).toNat) (t' + 1) (leftS rn g ls k e.1 t' p' s' jm' fa' ks))
  | 0, t, p, s, jm, fa => ⟨fun _ => rfl, fun t' p' s' h => by cases h⟩
  | f + 1, t, p, s, jm, fa => by
    have hen : FS.en ((k : Int), p, s, jm, fa, -1, ks) = -1 := rfl
    have hf : foll rn g ls (f + 1) (t + 1) ((k : Int), p, s, jm, fa, -1, ks) = foll rn g ls f (t + 1 + 1) (fstep rn g ls (t + 1) ((k : Int), p, s, jm, fa, -1, ks)) := by
      show (if FS.en ((k : Int), p, s, jm, fa, -1, ks) = -1 then _ else _) = _
      rw [if_pos hen]
    unfold rolE
    rw [hf]
    by_cases q : e.1.1 ≤ p + spd e.1 s
    · rw [if_pos q]
      refine ⟨fun h => (by cases h), fun t' p' s' h => ?_⟩
      cases h
      have ht : tickB rn g ls (k : Int) p s = ((land rn g 12 (nx rn g k) (lvP e.1 (max 0 (e.1.2.2.2.1 - ls k)) (p + spd e.1 s) (spd e.1 s))).1, (land rn g 12 (nx rn g k) (lvP e.1 (max 0 (e.1.2.2.2.1 - ls k)) (p + spd e.1 s) (spd e.1 s))).2.1, lvS e.1 (spd e.1 s), lvK (max 0 (e.1.2.2.2.1 - ls k)) (spd e.1 s), (land rn g 12 (nx rn g k) (lvP e.1 (max 0 (e.1.2.2.2.1 - ls k)) (p + spd e.1 s) (spd e.1 s))).2.2) := by
        unfold tickB
        rw [Int.toNat_natCast, he]
        dsimp only
        rw [if_neg (by omega)]
      have hs : fstep rn g ls (t + 1) ((k : Int), p, s, jm, fa, -1, ks) = leftS rn g ls k e.1 (t + 1) (p + spd e.1 s) (spd e.1 s) (fstep rn g ls (t + 1) ((k : Int), p, s, jm, fa, -1, ks)).jm (fstep rn g ls (t + 1) ((k : Int), p, s, jm, fa, -1, ks)).fa ks := by
        unfold fstep leftS
        rw [ht]
      refine ⟨(fstep rn g ls (t + 1) ((k : Int), p, s, jm, fa, -1, ks)).jm, (fstep rn g ls (t + 1) ((k : Int), p, s, jm, fa, -1, ks)).fa, ?_⟩
      rw [show f + 1 - (t + 1 - t).toNat = f by omega, ← hs]
    · rw [if_neg q]
      have ht : tickB rn g ls (k : Int) p s = ((k : Int), p + spd e.1 s, spd e.1 s, 0, 0) := by
        unfold tickB
        rw [Int.toNat_natCast, he]
        dsimp only
        rw [if_pos (by omega)]
      have hs : fstep rn g ls (t + 1) ((k : Int), p, s, jm, fa, -1, ks) = ((k : Int), p + spd e.1 s, spd e.1 s, jm + ((0 : Nat) : Int), max fa (spd e.1 s), -1, ks) := by
        unfold fstep
        rw [ht]
        dsimp only
        rw [if_neg (by omega), if_neg (by omega)]
      rw [hs]
      obtain ⟨h1, h2⟩ := foll_rol (g := g) (ls := ls) (ks := ks) he hk f (t + 1) (p + spd e.1 s) (spd e.1 s) (jm + ((0 : Nat) : Int)) (max fa (spd e.1 s))
      refine ⟨h1, fun t' p' s' h => ?_⟩
      obtain ⟨jm', fa', h3⟩ := h2 t' p' s' h
      refine ⟨jm', fa', ?_⟩
      rw [h3]
      have : t + 1 < t' := by
        have hr : ∀ (f : Nat) (t p s t' p' s' : Int), rolE e.1 f t p s = some (t', p', s') → t < t' := by
          intro f
          induction f with
          | zero => intro t p s t' p' s' h; cases h
          | succ f ih =>
            intro t p s t' p' s' h
            unfold rolE at h
            split at h
            · cases h; omega
            · have := ih _ _ _ _ _ _ h; omega
        exact hr _ _ _ _ _ _ _ h
      rw [show f - (t' - (t + 1)).toNat = f + 1 - (t' - t).toNat by omega]
theorem land_255 {rn : RUN} {g : Int32} {t : Int} (h : rn.length ≤ 12) : ∀ f : Nat, land rn g f 255 t = (255, t, 0)
  | 0 => rfl
  | f + 1 => by
    unfold land
    rw [List.getElem?_eq_none (by show rn.length ≤ 255; omega)]
/-- the fall of boards one behind another knocks as the carpenter's rows tell -/
theorem errS_foll {bds : List BD} {nW : Nat} {W : Nat → Int} {s : List Nat} {g : Int32} (hb : BDsok bds) (hs : s.length ≤ 12) (hin : ∀ c ∈ s, c < bds.length) : ∀ (m k : Nat) (f : Nat) (t pt sp jm fa q0 : Int) (ks : KS), k + m = s.length → 12 ≤ k + f → 0 ≤ t → t ≤ 2000 → 0 ≤ pt → 0 ≤ sp → sp ≤ 1023 →
    errT nW W (foll (rnL bds s) g nols (2000 - t).toNat (t + 1) ((land (rnL bds s) g f (if m = 0 then 255 else (k : Int)) pt).1, (land (rnL bds s) g f (if m = 0 then 255 else (k : Int)) pt).2.1, sp, jm, fa, (if (land (rnL bds s) g f (if m = 0 then 255 else (k : Int)) pt).1 = 255 then t else -1), ks)).ks = errS bds nW W (s.drop k) (t, q0, pt, sp, (ks.length : Int), sumT nW W ks 0) := by
  have hrn := rnL_ok hb hs hin
  intro m
  induction m with
  | zero =>
    intro k f t pt sp jm fa q0 ks hk hf ht0 ht1 hp hs0 hs1
    rw [if_pos rfl, land_255 hrn.1]
    dsimp only
    rw [if_pos rfl, foll_end (by show t ≠ -1; omega), List.drop_of_length_le (by omega)]
    rfl
  | succ m ih =>
    intro k f t pt sp jm fa q0 ks hk hf ht0 ht1 hp hs0 hs1
    have hks : k < s.length := by omega
    rw [if_neg (by omega)]
    have hge := rnL_get (bds := bds) hks
    have hbok : BDok (bdA bds (s.getD k 0 : Nat)) := (hrn.2 k _ hge).1
    have hdr : s.drop k = s.getD k 0 :: s.drop (k + 1) := by
      rw [List.drop_eq_getElem_cons hks]
      simp only [List.getD, List.getElem?_eq_getElem hks]
      rfl
    have hin' : s.getD k 0 < bds.length := hin _ (by
      simp only [List.getD, List.getElem?_eq_getElem hks]
      exact List.getElem_mem hks)
    have hbg : bds[s.getD k 0]? = some (bdA bds (s.getD k 0 : Nat)) := by
      have := bdA_get (bd := bds) (k := ((s.getD k 0 : Nat) : Int)) (by omega) (by omega)
      rwa [Int.toNat_natCast] at this
    have hnx : ∀ g, nx (rnL bds s) g (k : Int) = if m = 0 then 255 else ((k + 1 : Nat) : Int) := fun g => by
      rw [nx_eq (e := _) (by rw [Int.toNat_natCast]; exact hge) rfl]
      dsimp only
      by_cases hm : m = 0
      · rw [if_pos (by omega), if_pos hm]
      · rw [if_neg (by omega), if_neg hm]
    generalize hB : bdA bds (s.getD k 0 : Nat) = b at hge hbok hbg
    have hE : ∀ w : CRW, errS bds nW W (s.drop k) w = match lay1 b nW W w with
      | none => errV nW w.2.2.2.2.1 w.2.2.2.2.2
      | some w' => errS bds nW W (s.drop (k + 1)) w' := fun w => by
      rw [hdr]
      show (match (bds[s.getD k 0]?).bind (fun b => lay1 b nW W w) with
        | none => _
        | some w' => _) = _
      rw [hbg]
      rfl
    obtain ⟨f', rfl⟩ : ∃ f', f = f' + 1 := ⟨f - 1, by omega⟩
    have g1 := hbok.1
    have g2 := hbok.2.1
    rw [hE]
    by_cases hq : b.1 ≤ pt
    · have hl : land (rnL bds s) g (f' + 1) (k : Int) pt = ((land (rnL bds s) g f' (if m = 0 then 255 else ((k + 1 : Nat) : Int)) (pt - b.1)).1, (land (rnL bds s) g f' (if m = 0 then 255 else ((k + 1 : Nat) : Int)) (pt - b.1)).2.1, (land (rnL bds s) g f' (if m = 0 then 255 else ((k + 1 : Nat) : Int)) (pt - b.1)).2.2 + 1) := by
        conv => lhs; unfold land
        rw [Int.toNat_natCast, hge]
        dsimp only
        rw [if_neg (by omega), hnx]
      have h1 : lay1 b nW W (t, q0, pt, sp, (ks.length : Int), sumT nW W ks 0) = some (t, q0, pt - b.1, sp, (ks.length : Int), sumT nW W ks 0) := by
        unfold lay1
        rw [if_pos hq]
      rw [hl, h1]
      dsimp only
      exact ih (k + 1) f' t (pt - b.1) sp jm fa q0 ks (by omega) (by omega) ht0 ht1 (by omega) hs0 hs1
    · have hl : land (rnL bds s) g (f' + 1) (k : Int) pt = ((k : Int), pt, 0) := by
        conv => lhs; unfold land
        rw [Int.toNat_natCast, hge]
        dsimp only
        rw [if_pos (by omega)]
      rw [hl]
      dsimp only
      rw [if_neg (by omega)]
      obtain ⟨r1, r2⟩ := foll_rol (rn := rnL bds s) (g := g) (ls := nols) (k := k) (ks := ks) hge (by omega) (2000 - t).toNat t pt sp jm fa
      have h1 : lay1 b nW W (t, q0, pt, sp, (ks.length : Int), sumT nW W ks 0) = match rolE b (2000 - t).toNat t pt sp with
        | none => none
        | some (t', p, s) => if 0 < lvK b.2.2.2.1 s then some (t', q0, lvP b b.2.2.2.1 p s, lvS b s, (ks.length : Int) + 1, sumT nW W ks 0 + costK nW W ks.length t') else some (t', q0, lvP b b.2.2.2.1 p s, lvS b s, (ks.length : Int), sumT nW W ks 0) := by
        unfold lay1
        rw [if_neg hq]
        rfl
      rw [h1]
      cases hr : rolE b (2000 - t).toNat t pt sp with
      | none =>
        dsimp only
        rw [r1 hr]
        rfl
      | some x =>
        obtain ⟨t', p', s'⟩ := x
        obtain ⟨jm', fa', h3⟩ := r2 t' p' s' hr
        obtain ⟨o1, o2, o3, o4, o5, o6⟩ := rolE_ok hbok _ _ _ _ _ _ _ hp (by omega) hr
        rw [h3]
        have hd := hbok.2.2.2.2.2.2
        have hls := lvS_rng hbok o5
        have hlp := lvP_rng (p := p') hbok hd.1 hd.2.1 o5 o6 o3 (by omega)
        have hdm : max 0 (b.2.2.2.1 - nols k) = b.2.2.2.1 := by unfold nols; omega
        unfold leftS
        rw [hdm, hnx, show (2000 - t).toNat - (t' - t).toNat = (2000 - t').toNat by omega]
        dsimp only
        have key := fun ks' => ih (k + 1) 12 t' (lvP b b.2.2.2.1 p' s') (lvS b s') jm' fa' q0 ks' (by omega) (by omega) (by omega) (by omega) hlp.1 hls.1 (by omega)
        by_cases hz : 0 < lvK b.2.2.2.1 s'
        · rw [if_pos hz, if_pos hz]
          dsimp only
          rw [key]
          congr 1
          rw [List.length_append, sumT_app, Nat.zero_add]
          rfl
        · rw [if_neg hz, if_neg hz]
          dsimp only
          rw [key]
theorem errS_fall {bds : List BD} {nW : Nat} {W : Nat → Int} {s : List Nat} {g : Int32} (hb : BDsok bds) (hs : s.length ≤ 12) (h0 : 0 < s.length) (hin : ∀ c ∈ s, c < bds.length) : errT nW W (fall9 (rnL bds s) g nols).ks = errS bds nW W s (0, 0, 0, 0, 0, 0) := by
  have h := errS_foll (nW := nW) (W := W) (g := g) hb hs hin s.length 0 12 0 0 0 0 0 0 [] (by omega) (by omega) (by omega) (by omega) (by omega) (by omega) (by omega)
  rw [List.drop_zero] at h
  rw [← show (((0, 0, 0, 0, (([] : KS).length : Int), sumT nW W [] 0)) : CRW) = (0, 0, 0, 0, 0, 0) from rfl, ← h]
  have hg := rnL_get (bds := bds) h0
  have hbok := ((rnL_ok hb hs hin).2 0 _ hg).1
  have hl : land (rnL bds s) g 12 (if s.length = 0 then 255 else ((0 : Nat) : Int)) 0 = (0, 0, 0) := by
    rw [if_neg (by omega)]
    show land (rnL bds s) g (11 + 1) 0 0 = _
    unfold land
    rw [show ((0 : Int)).toNat = 0 from rfl, hg]
    dsimp only
    rw [if_pos (by have := hbok.1; dsimp only at this; omega)]
  rw [hl]
  dsimp only
  rw [if_neg (by omega)]
  rfl

/-! The class's calls over the tied state. -/
def fbs (sz : Nat) (bs : Nat → Int) (a b c e g : Int32) : Nat → Int := fun j => ((tk4 (tk4 (tk4 (tk4 (tk4 (fun j => zI (bs j)) sz a) (sz + 4) b) (sz + 8) c) (sz + 12) e) (sz + 16) g) j).toInt
theorem tk4_eq {f g : Nat → Int32} {s : Nat} {w : Int32} {k : Nat} (h : (k < s ∨ s + 4 ≤ k) → f k = g k) : tk4 f s w k = tk4 g s w k := by
  unfold tk4
  by_cases e0 : k = s
  · rw [if_pos e0, if_pos e0]
  by_cases e1 : k = s + 1
  · rw [if_neg e0, if_neg e0, if_pos e1, if_pos e1]
  by_cases e2 : k = s + 2
  · rw [if_neg e0, if_neg e0, if_neg e1, if_neg e1, if_pos e2, if_pos e2]
  by_cases e3 : k = s + 3
  · rw [if_neg e0, if_neg e0, if_neg e1, if_neg e1, if_neg e2, if_neg e2, if_pos e3, if_pos e3]
  · rw [if_neg e0, if_neg e0, if_neg e1, if_neg e1, if_neg e2, if_neg e2, if_neg e3, if_neg e3]
    exact h (by omega)
theorem tk4_rng {f : Nat → Int32} {s : Nat} {w : Int32} {k : Nat} (h : (k < s ∨ s + 4 ≤ k) → 0 ≤ (f k).toInt ∧ (f k).toInt ≤ 255) : 0 ≤ (tk4 f s w k).toInt ∧ (tk4 f s w k).toInt ≤ 255 := by
  unfold tk4
  split
  · exact bt_rng _ _
  split
  · exact bt_rng _ _
  split
  · exact bt_rng _ _
  split
  · exact bt_rng _ _
  · exact h (by omega)
theorem fbs_ok {sz : Nat} {bs : Nat → Int} {a b c e g : Int32} (hb : BSsok sz bs) (h : sz ≤ 620) : BSsok (sz + 20) (fbs sz bs a b c e g) := by
  refine ⟨by omega, fun k => ?_⟩
  unfold fbs
  refine tk4_rng (fun _ => tk4_rng (fun _ => tk4_rng (fun _ => tk4_rng (fun _ => tk4_rng (fun _ => ?_)))))
  obtain ⟨b1, b2⟩ := hb.2 k
  rw [zI_toInt (by omega) (by omega)]
  exact ⟨b1, b2⟩
theorem fbs_at {sz : Nat} {bs : Nat → Int} {a b c e g : Int32} {f : Nat → Int32} (h : ∀ k, k < sz → f k = zI (bs k)) {k : Nat} (hk : k < sz + 20) : tk4 (tk4 (tk4 (tk4 (tk4 f sz a) (sz + 4) b) (sz + 8) c) (sz + 12) e) (sz + 16) g k = zI (fbs sz bs a b c e g k) := by
  unfold fbs
  rw [zI_self]
  refine tk4_eq (fun h1 => tk4_eq (fun h2 => tk4_eq (fun h3 => tk4_eq (fun h4 => tk4_eq (fun h5 => ?_)))))
  exact h k (by omega)
theorem elem_app : ∀ (a b : List Nat) (v : Nat), (a ++ b).elem v = (a.elem v || b.elem v)
  | [], _, _ => rfl
  | x :: a, b, v => by
    show (match v == x with | true => true | false => (a ++ b).elem v) = ((match v == x with | true => true | false => a.elem v) || b.elem v)
    cases v == x with
    | true => rfl
    | false => exact elem_app a b v
theorem V0_app {a b : List Nat} {v i : Nat} (h : V0 (a ++ b) v i = false) : V0 a v i = false ∧ V0 b v i = false := by
  unfold V0 at h
  rw [elem_app, Bool.or_eq_false_iff] at h
  exact h
theorem V1_of0 {a : List Nat} {p v i : Nat} (h : V0 a v i = false) : V1 a p v i = false := by
  unfold V0 at h
  unfold V1
  rw [h]
  rfl
section COPS
variable {Γ : AMG} {Q : QQ} {d : Nat} {I : II} {Lg : LJ} {R : RR} {gc : Nat → Nat} {sz : Nat} {bs : Nat → Int} {bd : List BD} {rn : Nat → RUN} {ks : KS} {ml : List MC} {mn : List Int} {es : List EV} {ft : Int} {nt : NT} {nk : KS} {dn : Nat → Int} {ld : List Int}
set_option maxRecDepth 100000 in
theorem c_feed {a b c e g : Int32} (hb : BSsok sz bs) (hC : CS I R sz bs bd rn ks ml mn es ft nt nk dn ld)
    (hn : 620 < sz → Q (some (vI (zI (-1)))) I Lg R (GM gc))
    (hy : sz ≤ 620 → ∀ I' : II, FrI nM I I' → CS I' R (sz + 20) (fbs sz bs a b c e g) bd rn ks ml mn es ft nt nk dn ld → Q (some (vI (zI (sz + 20 : Nat)))) I' Lg R (GM gc)) :
    am_Sp Γ (d + 2) 0 0 mX11_feed [vR 11 0, vI a, vI b, vI c, vI e, vI g] I Lg R (GM gc) Q := by
  have h640 := hb.1
  obtain ⟨⟨t, s, r, k⟩, ⟨m, n, p, ft⟩, nt, d, la⟩ := hC
  refine am_run vX11_feed 20 _ rfl rfl rfl rfl ?_
  refine s_take (sz := (sz : Int)) t.1 (by omega) (by omega) (fun h => ?_) (fun h I' z f e9 => ?_)
  · exact hn (by omega)
  · have e1 : ((sz + 20 : Nat) : Int) = (sz : Int) + 20 := by omega
    have hy := hy (by omega) I' (f.mono (V0_nM (by decide))) ⟨⟨⟨by rw [z, e1], fun k hk => by rw [e9, Int.toNat_natCast]; exact fbs_at t.2 hk⟩, s.fr f rfl (fun v hv _ => (by decide : ∀ v ∈ rvars, V0 [123, 39] v 0 = false) v hv), r.fr f (fun v hv _ => (by decide : ∀ v ∈ rvars, V0 [123, 39] v 0 = false) v hv), k.fr f (by decide)⟩, ⟨m.fr f (by decide), n.fr f (by decide), p.fr f (by decide), by rw [f _ _ rfl]; exact ft⟩, nt.fr f (by decide), d.fr f rfl, la.fr f (by decide)⟩
    rw [e1] at hy
    exact hy
set_option maxRecDepth 100000 in
theorem c_end {x1 : Int32} (hb : BSsok sz bs) (hC : CS I R sz bs bd rn ks ml mn es ft nt nk dn ld)
    (hn : ¬ (0 ≤ x1.toInt ∧ x1.toInt ≤ sz) → Q (some (vI (zI 0))) I Lg R (GM gc))
    (hy : ∀ n : Nat, n ≤ sz → x1 = zI n → ∀ I' : II, FrI nM I I' → CS I' R n bs bd rn ks ml mn es ft nt nk dn ld → Q (some (vI (zI 1))) I' Lg R (GM gc)) :
    am_Sp Γ (d + 1) 0 0 mX11_end [vR 11 0, vI x1] I Lg R (GM gc) Q := by
  have h640 := hb.1
  obtain ⟨⟨t, s, r, k⟩, ⟨m, n, p, ft⟩, nt, d, la⟩ := hC
  refine am_run vX11_end 20 _ rfl rfl rfl rfl ?_
  refine s_cut (sz := (sz : Int)) t.1 (by omega) (by omega) (fun h => ?_) (fun h h2 => ?_)
  · exact ⟨Or.inl rfl, hn (by omega)⟩
  · have f : FrI (V0 [39]) I (up3 I 39 0 0 x1) := FrI.rf.up rfl
    have e1 : x1 = zI x1.toInt.toNat := by rw [show ((x1.toInt.toNat : Nat) : Int) = x1.toInt by omega, zI_self]
    exact ⟨Or.inr rfl, hy x1.toInt.toNat (by omega) e1 _ (f.mono (V0_nM (by decide))) ⟨⟨⟨by rw [up3_s]; exact e1, fun k hk => by rw [f _ _ rfl]; exact t.2 k (by omega)⟩, s.fr f rfl (fun v hv _ => (by decide : ∀ v ∈ rvars, V0 [39] v 0 = false) v hv), r.fr f (fun v hv _ => (by decide : ∀ v ∈ rvars, V0 [39] v 0 = false) v hv), k.fr f (by decide)⟩, ⟨m.fr f (by decide), n.fr f (by decide), p.fr f (by decide), by rw [f _ _ rfl]; exact ft⟩, nt.fr f (by decide), d.fr f rfl, la.fr f (by decide)⟩⟩
set_option maxRecDepth 100000 in
theorem c_board {x1 x2 x3 x4 x5 : Int32} (hbd : BDsok bd) (hrn : RNSok rn) (hC : CS I R sz bs bd rn ks ml mn es ft nt nk dn ld)
    (hn : (bd.length = 16 ∨ ¬ bdTold x1 x2 x3 x4 x5) → Q (some (vI (zI (-1)))) I Lg R (GM gc))
    (hy : bd.length < 16 → bdTold x1 x2 x3 x4 x5 → ∀ (I' : II) (R' : RR) (gc' : Nat → Nat), FrI nM I I' → CS I' R' sz bs (bd ++ [bdOf x1 x2 x3 x4 x5]) rn ks ml mn es ft nt nk dn ld → Q (some (vI (zI bd.length))) I' Lg R' (GM gc')) :
    am_Sp Γ (d + 2) 1 5 mX11_board [vR 11 0, vI x1, vI x2, vI x3, vI x4, vI x5] I Lg R (GM gc) Q := by
  obtain ⟨⟨t, s, r, k⟩, ⟨m, n, p, ft⟩, nt, d, la⟩ := hC
  refine s_board hbd s hn (fun h1 h2 I' f hk st => ?_)
  have f : FrI (V0 (46 :: bov)) I I' := f.mono (fun v i hv => by
    obtain ⟨h1, h2⟩ := V0_app (a := [46]) (b := bov) hv
    unfold VBd
    rw [h1, V1_of0 h2]
    rfl)
  have hr2 : CRunsAt I' (up3 R 2 0 bd.length (some (gc 1))) rn := fun r9 hr4 => by
    obtain ⟨g1, g2⟩ := r r9 hr4
    refine ⟨by rw [f _ _ rfl]; exact g1, fun p e he => ?_⟩
    obtain ⟨⟨b, g3, g4⟩, g5, g6⟩ := g2 p e he
    exact ⟨⟨b, by rw [up3_v _ (by decide)]; exact g3, hk b e.1 ((hrn r9 hr4).2 p e he).1 g4⟩, by rw [f _ _ rfl]; exact g5, by rw [f _ _ rfl]; exact g6⟩
  exact hy h1 h2 I' _ _ (f.mono (V0_nM (by decide))) ⟨⟨t.fr f rfl rfl, st, hr2, k.fr f (by decide)⟩, ⟨m.fr f (by decide), n.fr f (by decide), p.fr f (by decide), by rw [f _ _ rfl]; exact ft⟩, nt.fr f (by decide), d.fr f rfl, la.fr f (by decide)⟩
def rnSet (rn : Nat → RUN) (r : Nat) (x : RUN) : Nat → RUN := fun q => if q = r then x else rn q
set_option maxRecDepth 100000 in
theorem c_run {x1 : Int32} (hb : BSsok sz bs) (hbd : BDsok bd) (hC : CS I R sz bs bd rn ks ml mn es ft nt nk dn ld)
    (hy : ∀ r : Nat, r < 4 → x1 = zI r → runOk sz bs bd.length → ∀ (I' : II) (R' : RR), FrI nM I I' → CS I' R' 0 bs bd (rnSet rn r (rnOf bd bs (sz / 3))) ks ml mn es ft nt nk dn ld → Q (some (vI (zI (sz / 3 : Nat)))) I' Lg R' (GM gc))
    (hn : ((x1.toInt < 0 ∨ 4 ≤ x1.toInt) ∨ ¬ runOk sz bs bd.length) → ∀ I' : II, FrI nM I I' → CS I' R 0 bs bd rn ks ml mn es ft nt nk dn ld → Q (some (vI (zI (-1)))) I' Lg R (GM gc)) :
    am_Sp Γ (d + 2) 0 0 mX11_run [vR 11 0, vI x1] I Lg R (GM gc) Q := by
  obtain ⟨⟨t, s, r, k⟩, ⟨m, n, p, ft⟩, nt, d, la⟩ := hC
  refine s_run hb t hbd s (fun r0 hr0 hx hok I' R' f fR z pth => ?_) (fun hno => ?_)
  · have f0 : FrI (V0 [32, 113, 114, 39]) I I' := f.mono (fun v i hv => by
      obtain ⟨h1, h2⟩ := V0_app (a := [32, 113, 114]) (b := [39]) hv
      unfold VR
      rw [h2, V1_of0 h1]
      rfl)
    have s2 : StockAt I' R' bd := ⟨by rw [f0 _ _ rfl]; exact s.1, fun k x hk => by
      obtain ⟨b, g1, g2⟩ := s.2 k x hk
      exact ⟨b, by rw [fR _ _ (Or.inl (by decide))]; exact g1, g2.fb f0 (fun v hv _ => (by decide : ∀ v ∈ [6, 7, 8, 9, 10], V0 [32, 113, 114, 39] v 0 = false) v hv)⟩⟩
    have r2 : CRunsAt I' R' (rnSet rn r0 (rnOf bd bs (sz / 3))) := fun q hq => by
      unfold rnSet
      by_cases e : q = r0
      · rw [if_pos e, e]; exact pth
      · rw [if_neg e]
        have hv : ∀ v, v ∈ [32, 113, 114] → VR r0 v q = false := fun v hv => by
          unfold VR V0 V1
          rw [beq_eq_false_iff_ne.mpr e, Bool.and_false, (by decide : ∀ v ∈ [32, 113, 114], ([39] : List Nat).elem v = false) v hv]
          rfl
        obtain ⟨g1, g2⟩ := r q hq
        refine ⟨by rw [f _ _ (hv _ (by decide))]; exact g1, fun p e he => ?_⟩
        obtain ⟨⟨b, g3, g4⟩, g5, g6⟩ := g2 p e he
        exact ⟨⟨b, by rw [fR _ _ (Or.inr ‹_›)]; exact g3, g4.fb f0 (fun v hv _ => (by decide : ∀ v ∈ [6, 7, 8, 9, 10], V0 [32, 113, 114, 39] v 0 = false) v hv)⟩, by rw [f _ _ (hv _ (by decide))]; exact g5, by rw [f _ _ (hv _ (by decide))]; exact g6⟩
    exact hy r0 hr0 hx hok I' R' (f0.mono (V0_nM (by decide))) ⟨⟨⟨z, fun k hk => by omega⟩, s2, r2, k.fr f0 (by decide)⟩, ⟨m.fr f0 (by decide), n.fr f0 (by decide), p.fr f0 (by decide), by rw [f0 _ _ rfl]; exact ft⟩, nt.fr f0 (by decide), d.fr f0 rfl, la.fr f0 (by decide)⟩
  · have f : FrI (V0 [39]) I (up3 I 39 0 0 (zI 0)) := FrI.rf.up rfl
    exact hn hno _ (f.mono (V0_nM (by decide))) ⟨⟨⟨up3_s .., fun k hk => by omega⟩, s.fr f rfl (fun v hv _ => (by decide : ∀ v ∈ rvars, V0 [39] v 0 = false) v hv), r.fr f (fun v hv _ => (by decide : ∀ v ∈ rvars, V0 [39] v 0 = false) v hv), k.fr f (by decide)⟩, ⟨m.fr f (by decide), n.fr f (by decide), p.fr f (by decide), by rw [f _ _ rfl]; exact ft⟩, nt.fr f (by decide), d.fr f rfl, la.fr f (by decide)⟩
end COPS

/-! Fields: read and written. -/
def am_tyC : List (Nat → FieldType) := [tyX0, tyX1, tyX2, tyX3, tyX4, tyX5, tyX6, tyX7, tyX8, tyX9, tyX10, tyX11, tyX12]
def am_ty (c k : Nat) : FieldType := am_nth (fun _ => .int) am_tyC c k
theorem am_inp {big ws : List Cond} (ps : List Nat) (hp : ws = ps.filterMap (fun i => big[i]?)) (hg : ws.all goodWord = true) : ∀ w ∈ ws, w ∈ big.filter goodWord := by
  intro w hw
  have h1 := List.all_eq_true.mp hg w hw
  rw [hp] at hw
  obtain ⟨i, -, hi⟩ := List.mem_filterMap.mp hw
  exact List.mem_filter.mpr ⟨List.mem_of_getElem? hi, h1⟩
theorem am_wsin0 : ∀ w ∈ wsX00, w ∈ am_BIG := am_inp [374, 376, 378, 380, 382, 384] (by decide +kernel) (by decide +kernel)
theorem am_wsin1 : ∀ w ∈ wsX10, w ∈ am_BIG := am_inp [624, 626, 628, 630, 632] (by decide +kernel) (by decide +kernel)
theorem am_wsin2 : ∀ w ∈ wsX20, w ∈ am_BIG := am_inp [492, 494, 496, 498, 500, 502, 504, 506, 508, 510, 512, 514, 516, 518] (by decide +kernel) (by decide +kernel)
theorem am_wsin3 : ∀ w ∈ wsX30, w ∈ am_BIG := am_inp [236, 238, 240, 242, 244, 246, 248, 250, 252, 254, 256, 258, 260, 262, 264, 266] (by decide +kernel) (by decide +kernel)
theorem am_wsin4 : ∀ w ∈ wsX40, w ∈ am_BIG := am_inp [397, 399, 401, 403, 405, 407, 409, 411] (by decide +kernel) (by decide +kernel)
theorem am_wsin5 : ∀ w ∈ wsX50, w ∈ am_BIG := am_inp [193, 195, 197, 199, 201] (by decide +kernel) (by decide +kernel)
theorem am_wsin6 : ∀ w ∈ wsX60, w ∈ am_BIG := am_inp [442, 444, 446, 448, 450, 452, 454, 456, 458, 460, 462, 464, 466] (by decide +kernel) (by decide +kernel)
theorem am_wsin7 : ∀ w ∈ wsX70, w ∈ am_BIG := am_inp [532, 534, 536, 538] (by decide +kernel) (by decide +kernel)
theorem am_wsin8 : ∀ w ∈ wsX80, w ∈ am_BIG := am_inp [292, 294, 296, 298, 300] (by decide +kernel) (by decide +kernel)
theorem am_wsin9 : ∀ w ∈ wsX90, w ∈ am_BIG := am_inp [319, 321, 323, 325, 327, 329, 331, 333, 335, 337, 339, 341] (by decide +kernel) (by decide +kernel)
theorem am_wsin10 : ∀ w ∈ wsX100, w ∈ am_BIG := am_inp [156, 158, 160, 162, 164, 166, 168, 170, 172] (by decide +kernel) (by decide +kernel)
theorem am_wsin11 : ∀ w ∈ wsX110, w ∈ am_BIG := am_inp [553, 555, 557, 559, 561, 563, 565, 567, 569, 571, 573, 575] (by decide +kernel) (by decide +kernel)
theorem am_wsin12 : ∀ w ∈ wsX120, w ∈ am_BIG := am_inp [1421, 1423, 1425, 1427, 1429, 1431, 1433, 1435, 1437, 1439, 1441, 1443, 1445, 1447, 1449, 1451, 1453, 1455, 1457, 1459, 1461, 1463, 1465, 1467, 1469, 1471, 1473, 1475, 1477, 1479, 1481, 1483, 1485, 1487, 1489, 1491, 1493, 1495, 1497, 1499, 1501, 1503, 1505, 1507, 1509, 1511, 1513, 1515, 1517, 1519, 1521, 1523, 1525, 1527, 1529, 1531, 1533, 1535, 1537, 1539, 1541, 1543, 1545, 1547, 1549, 1551, 1553, 1555, 1557, 1559, 1561, 1563, 1565, 1567, 1569, 1571, 1573, 1575, 1577, 1579, 1581, 1583, 1585, 1587, 1589, 1591, 1593, 1595, 1597] (by decide +kernel) (by decide +kernel)
theorem am_wsin : ∀ (c : Nat) (r : vw_C), vwCl[c]? = some r → ∀ w ∈ u_ws r.1 r.2.1 r.2.2, w ∈ am_BIG
  | 0, _, h => by cases h; exact am_wsin0
  | 1, _, h => by cases h; exact am_wsin1
  | 2, _, h => by cases h; exact am_wsin2
  | 3, _, h => by cases h; exact am_wsin3
  | 4, _, h => by cases h; exact am_wsin4
  | 5, _, h => by cases h; exact am_wsin5
  | 6, _, h => by cases h; exact am_wsin6
  | 7, _, h => by cases h; exact am_wsin7
  | 8, _, h => by cases h; exact am_wsin8
  | 9, _, h => by cases h; exact am_wsin9
  | 10, _, h => by cases h; exact am_wsin10
  | 11, _, h => by cases h; exact am_wsin11
  | 12, _, h => by cases h; exact am_wsin12
  | _ + 13, _, h => by cases h
theorem am_fld : ∀ (c : Nat) (r : vw_C), vwCl[c]? = some r → (∀ k, k < r.2.2 → parseFieldDescriptor (r.2.1 k).2.2.1 = some (am_ty c k)) ∧ (∀ a, a < r.2.2 → ∀ b, b < r.2.2 → a ≠ b → (r.2.1 a).2.1 ≠ (r.2.1 b).2.1)
  | 0, _, h => by cases h; exact ⟨tyX0_ok, nmX0⟩
  | 1, _, h => by cases h; exact ⟨tyX1_ok, nmX1⟩
  | 2, _, h => by cases h; exact ⟨tyX2_ok, nmX2⟩
  | 3, _, h => by cases h; exact ⟨tyX3_ok, nmX3⟩
  | 4, _, h => by cases h; exact ⟨tyX4_ok, nmX4⟩
  | 5, _, h => by cases h; exact ⟨tyX5_ok, nmX5⟩
  | 6, _, h => by cases h; exact ⟨tyX6_ok, nmX6⟩
  | 7, _, h => by cases h; exact ⟨tyX7_ok, nmX7⟩
  | 8, _, h => by cases h; exact ⟨tyX8_ok, nmX8⟩
  | 9, _, h => by cases h; exact ⟨tyX9_ok, nmX9⟩
  | 10, _, h => by cases h; exact ⟨tyX10_ok, nmX10⟩
  | 11, _, h => by cases h; exact ⟨tyX11_ok, nmX11⟩
  | 12, _, h => by cases h; exact ⟨tyX12_ok, nmX12⟩
  | _ + 13, _, h => by cases h
/-- a slot's tag and its type -/
def am_tagOk (c k : Nat) : Bool := match am_slot c k, am_ty c k with
  | (0, _), .int => true
  | (1, _), .boolean => true
  | (2, _), .long => true
  | (3, _), .object _ => true
  | (3, _), .array _ => true
  | (4, _), .object _ => true
  | _, _ => false
theorem am_tagOk_all : ∀ c, c < 13 → ∀ k, k < (am_ck c).2.2.1 → am_tagOk c k = true := by
  have h : (List.range 13).all (fun c => (List.range (am_ck c).2.2.1).all (am_tagOk c)) = true := by decide +kernel
  exact fun c hc k hk => List.all_eq_true.mp (List.all_eq_true.mp h c (List.mem_range.mpr hc)) k (List.mem_range.mpr hk)
theorem am_ckN : ∀ (c : Nat) (r : vw_C), vwCl[c]? = some r → am_ck c = (0, c, r.2.2, 0, 0) ∧ c < 13
  | 0, _, h => by cases h; exact ⟨rfl, by decide⟩
  | 1, _, h => by cases h; exact ⟨rfl, by decide⟩
  | 2, _, h => by cases h; exact ⟨rfl, by decide⟩
  | 3, _, h => by cases h; exact ⟨rfl, by decide⟩
  | 4, _, h => by cases h; exact ⟨rfl, by decide⟩
  | 5, _, h => by cases h; exact ⟨rfl, by decide⟩
  | 6, _, h => by cases h; exact ⟨rfl, by decide⟩
  | 7, _, h => by cases h; exact ⟨rfl, by decide⟩
  | 8, _, h => by cases h; exact ⟨rfl, by decide⟩
  | 9, _, h => by cases h; exact ⟨rfl, by decide⟩
  | 10, _, h => by cases h; exact ⟨rfl, by decide⟩
  | 11, _, h => by cases h; exact ⟨rfl, by decide⟩
  | 12, _, h => by cases h; exact ⟨rfl, by decide⟩
  | _ + 13, _, h => by cases h
theorem am_lt13 {c : Nat} (h : c < 13) : c < am_NC := Nat.lt_of_lt_of_le h (by decide)
/-- an object's cell -/
theorem am_Wd.obj {Γ : AMG} {ρ : Nat → Nat → Nat} {I : II} {Lg : LJ} {R : RR} {G : GG} {H : Heap} {c i : Nat} (hW : am_Wd Γ ρ I Lg R G H) {r : vw_C} (hr : vwCl[c]? = some r) (hi : i < G.2 c) : va_at Γ.D vwCl (ρ c i, .inr (c, (List.range r.2.2).map (am_val ρ I Lg R G c i))) H := by
  obtain ⟨hck, hc⟩ := am_ckN c r hr
  have h := hW.1 c i (am_lt13 hc) hi
  unfold am_E at h
  rw [hck] at h
  exact h
section AMW
variable {Γ : AMG} {M : MD} {ρ : Nat → Nat → Nat} {p : Program} {e : Env} {Rm : Room} {s : State} {m : MethodId} {args : Array Value} {below : List Frame} {meth : Method} {c0 : Code} {H : Heap} {locs : List Loc} {cells slots : Nat} {Z : State → Prop}
variable {I : II} {Lg : LJ} {R : RR} {G : GG} {pc : Nat} {ls : Array Slot} {rest : List Value}
theorem am_getW (C : am_Cx Γ M p s m args meth c0) (hW : am_Wd Γ ρ I Lg R G H) {c i k idx : Nat} {r : vw_C} (hr : vwCl[c]? = some r) (hi : i < G.2 c) (hk : k < r.2.2) (hlink : Cond.fieldLink M.1 idx (r.2.1 k).1 (r.2.1 k).2.1 (r.2.1 k).2.2.1 ∈ am_BIG) (hd : decode M.2.2.1 pc = .ok (.getfield idx, 3))
    (kk : W p Γ.l e Rm s m args below meth c0 H locs cells slots Z (F0 m (pc + 3) ls (am_val ρ I Lg R G c i k :: rest))) : W p Γ.l e Rm s m args below meth c0 H locs cells slots Z (F0 m pc ls (.ref (ρ c i) :: rest)) := by
  have hP : va_P Γ.D vwCl [(ρ c i, .inr (c, (List.range r.2.2).map (am_val ρ I Lg R G c i)))] H := by
    intro j q hq
    match j, hq with
    | 0, hq => cases hq; exact hW.obj hr hi
  exact va_get (C := r.1) (T := r.2.1) (N := r.2.2) C.1 C.2.1 C.2.2.2.2.2.2.1 (am_wsin c r hr) C.2.2.2.2.2.1 C.2.2.2.2.2.2.2.2.1.1 hP 0 rfl hr k hk (C.2.2.2.2.2.2.1 _ hlink) (fun _ h => h) (by simp [hk]) hd kk
theorem am_putW (C : am_Cx Γ M p s m args meth c0) (hW : am_Wd Γ ρ I Lg R G H) (hl : ∀ q ∈ locs, Γ.HH.size ≤ q.base) {c i k idx : Nat} {r : vw_C} {v : Value} (hr : vwCl[c]? = some r) (hi : i < G.2 c) (hk : k < r.2.2) (hlink : Cond.fieldLink M.1 idx (r.2.1 k).1 (r.2.1 k).2.1 (r.2.1 k).2.2.1 ∈ am_BIG)
    (hfin : (r.2.1 k).2.2.2 = false ∨ (r.2.1 k).2.2.2 = true ∧ M.2.1.name = "<init>" ∧ (r.2.1 k).1 = M.1) (hn : narrow (am_ty c k) v = v) (hfit : fits (am_ty c k) v = true) (hd : decode M.2.2.1 pc = .ok (.putfield idx, 3))
    (kk : ∀ (H1 : Heap) (locs1 : List Loc), H1.size = H.size → (∀ q, q ≠ ρ c i → H1[q]? = H[q]?) → va_at Γ.D vwCl (ρ c i, .inr (c, ((List.range r.2.2).map (am_val ρ I Lg R G c i)).set k v)) H1 → (∀ q ∈ locs1, Γ.HH.size ≤ q.base) →
      W p Γ.l e Rm s m args below meth c0 H1 locs1 cells slots Z (F0 m (pc + 3) ls rest)) : W p Γ.l e Rm s m args below meth c0 H locs cells slots Z (F0 m pc ls (v :: .ref (ρ c i) :: rest)) := by
  obtain ⟨hx, hb, hml, hret, hlk, hown, hts, hin, ⟨hK, -⟩, -⟩ := C
  obtain ⟨hty, hnm⟩ := am_fld c r hr
  have hap := va_apart (own := M.1) hts (am_wsin c r hr) (am_ty c) hty hnm hK hr
  have hlow := hW.2.2.1 c i (am_lt13 (am_ckN c r hr).2) hi
  have hlen : k < ((List.range r.2.2).map (am_val ρ I Lg R G c i)).length := by simpa using hk
  obtain ⟨r', h1, cell, q1, q2, q3, q4⟩ := hW.obj hr hi
  have hrr : r' = r := Option.some.inj (h1.symm.trans hr)
  subst hrr
  obtain ⟨hS, hfc, kC, hkC, hkind⟩ := hK.1 c _ hr
  obtain ⟨cf, kf, fi, f, hif, hsl⟩ := hS k hk
  have hlay := hts _ (am_wsin c r' hr _ (u_in_lay hk))
  have hst := (u_facts hfc hkC (u_lays hts (am_wsin c r' hr) hk) hif).1
  have hl1 : ∀ q ∈ locs ++ [⟨ρ c i, f.slot⟩], Γ.HH.size ≤ q.base := fun q hq => (List.mem_append.mp hq).elim (hl q) (fun h => by rw [List.mem_singleton.mp h]; exact hlow)
  have fin : ∀ H' : Heap, H'[ρ c i]? = some (cell.setSlot f.slot v) → va_at Γ.D vwCl (ρ c i, .inr (c, ((List.range r'.2.2).map (am_val ρ I Lg R G c i)).set k v)) H' := fun H' e1 => by
    rw [hsl] at e1
    exact ⟨_, hr, t_OB.to (V := updV (vp_V ((List.range r'.2.2).map (am_val ρ I Lg R G c i))) k v) ⟨_, e1, q2, q3, t_set q4 hap hk v⟩ (fun j _ => vp_updV_set hlen v j)⟩
  have hlt : f.slot < cell.slots.size := by rw [hsl]; exact k2_hasslot (q4 k hk)
  unfold u_lay at hlay
  rcases hfin with hf | ⟨hf, hnI, hdecl⟩
  · rw [if_neg (by rw [hf]; decide)] at hlay
    have h6 := u_store hfc hkC hkind hlay hif (hty k hk) hn hfit
    exact W.putK hx hb (f := f) ⟨hown, hts _ hlink, ⟨_, _, _, hif⟩, hst⟩ (by rw [q2]; exact h6) q1 q3 hlt rfl rfl hd fun H' e1 e2 e3 => kk H' _ e2 e3 (fin H' e1) hl1
  · rw [if_pos hf] at hlay
    have hcf : m.cls = cf := by
      obtain ⟨_, _, c', _, _, _, -, -, hf', -, -, -, hown2, -⟩ := Cond.laysFinal_spec hlay
      have e1 : c' = cf := by have := hif.symm.trans hf'; simp at this; exact this.1.symm
      rw [hdecl] at hown2
      rw [← e1]; exact Option.some.inj (hown.symm.trans hown2)
    have h6 := u_fits hfc hkC hkind (Or.inr hlay) hif (hty k hk) hn hfit
    exact W.putFinK hx hb hown (hts _ hlink) hif hst hcf (hin hnI) (by rw [q2]; exact h6) q1 q3 hlt rfl rfl hd fun H' e1 e2 e3 => kk H' _ e2 e3 (fin H' e1) hl1
end AMW

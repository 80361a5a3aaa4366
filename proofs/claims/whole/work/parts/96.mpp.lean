/-! How the reference stands in a text. -/
def EVv (l : List MC) (B : Int) (e : EV) : Prop := 0 ≤ e.1 ∧ e.1 ≤ B ∧ 0 ≤ e.2.1 ∧ e.2.1 < l.length ∧ leastN (mof l e.2.1) ≤ e.2.2 ∧ e.2.2 ≤ mostN (mof l e.2.1)
def LSv (l : List MC) (B : Int) (L : LST) : Prop := ∀ e ∈ L, EVv l B e
theorem LSv.mono {l : List MC} {A B : Int} {L : LST} (h : LSv l A L) (hab : A ≤ B) : LSv l B L := fun e he => by
  obtain ⟨h1, h2, h3⟩ := h e he
  exact ⟨h1, by omega, h3⟩
theorem LSv.app {l : List MC} {B : Int} {L M : LST} (h : LSv l B L) (h2 : LSv l B M) : LSv l B (L ++ M) := fun e he => (List.mem_append.mp he).elim (h e) (h2 e)
theorem LSv.sh {l : List MC} {A B t : Int} {L : LST} (h : LSv l A L) (h0 : 0 ≤ t) (hab : A + t ≤ B) : LSv l B (L.map (shE t)) := fun e he => by
  obtain ⟨x, hx, rfl⟩ := List.mem_map.mp he
  obtain ⟨h1, h2, h3⟩ := h x hx
  exact ⟨by show 0 ≤ x.1 + t; omega, by show x.1 + t ≤ B; omega, h3⟩
theorem LSv.rep {l : List MC} {A B ev : Int} {L : LST} (h : LSv l A L) (h0 : 0 ≤ ev) : ∀ n : Nat, (∀ k : Nat, k < n → A + k * ev ≤ B) → LSv l B (repL L ev n)
  | 0, _ => fun e he => by cases he
  | n + 1, hab => by
    unfold repL
    exact (LSv.rep h h0 n (fun k hk => hab k (by omega))).app (h.sh (Int.mul_nonneg (by omega) h0) (hab n (by omega)))
def FrV (l : List MC) (ns : Nat) : List FRM → Prop
  | [] => True
  | f :: r => (1 ≤ f.1 ∧ f.1 ≤ 20 ∧ 1 ≤ f.2.1 ∧ f.2.1 ≤ 2000) ∧ LSv l (154000 * ns + 2000 + 38000 * (4 - ((r.length : Int) + 1))) f.2.2 ∧ FrV l ns r
def PPok (l : List MC) (P : PP) : Prop := P.2.1.length ≤ 8 ∧ (P.2.2.1 ≠ none → P.2.1.length < 8) ∧ P.2.2.2.2.2.length ≤ 4 ∧ (∀ (j : Nat) (s : List Int × LST), P.2.1[j]? = some s → LetL s.1 ∧ s.1.length ≤ 8 ∧ LSv l (154000 * ((j : Int) + 1)) s.2) ∧ (∀ w, P.2.2.1 = some w → LetL w ∧ w.length ≤ 8) ∧ FrV l P.2.1.length P.2.2.2.2.2 ∧ LSv l (154000 * ((P.2.1.length : Int) + 1)) P.2.2.2.2.1 ∧ LSv l (154000 * ((P.2.1.length : Int) + 1)) P.2.2.2.1
def innerL (P : PP) : LST := match P.2.2.2.2.2 with
  | [] => P.2.2.2.2.1
  | f :: _ => f.2.2
def inS (P : PP) : Nat := match P.2.2.1 with
  | none => 0
  | some _ => 1
theorem inS_le {P : PP} : inS P ≤ 1 := by
  unfold inS
  split <;> omega
def withL (P : PP) (p : Nat) (q : LST × List FRM) : PP := (p, P.2.1, P.2.2.1, P.2.2.2.1, q)
theorem innerL_v {l : List MC} {P : PP} (h : PPok l P) : LSv l (154000 * P.2.1.length + 2000 + 38000 * (4 - (P.2.2.2.2.2.length : Int))) (innerL P) := by
  obtain ⟨h1, h2, h3, h4, h5, h6, h7, h8⟩ := h
  unfold innerL
  split
  · next q =>
    rw [q]
    exact h7.mono (by show _ ≤ 154000 * (P.2.1.length : Int) + 2000 + 38000 * (4 - (([] : List FRM).length : Int)); simp only [List.length_nil]; omega)
  · next f r q =>
    rw [q] at h6 ⊢
    exact h6.2.1.mono (by rw [List.length_cons]; omega)
/-- events come to the innermost list -/
theorem PPok.add {l : List MC} {P : PP} {p : Nat} {es : LST} (h : PPok l P) (hes : LSv l (154000 * P.2.1.length + 2000 + 38000 * (4 - (P.2.2.2.2.2.length : Int))) es) : PPok l (withL P p (addL P.2.2.2.2.1 P.2.2.2.2.2 es)) := by
  obtain ⟨h1, h2, h3, h4, h5, h6, h7, h8⟩ := h
  unfold addL withL
  split
  · next q =>
    rw [q] at hes
    refine ⟨h1, h2, by simp, h4, h5, trivial, h7.app (hes.mono ?_), h8⟩
    simp only [List.length_nil]
    omega
  · next f r q =>
    rw [q] at h3 h6 hes
    refine ⟨h1, h2, h3, h4, h5, ⟨h6.1, h6.2.1.app (hes.mono ?_), h6.2.2⟩, h7, h8⟩
    rw [List.length_cons]
    omega
def MFrm (I : II) (s : Nat) : List FRM → Prop
  | [] => True
  | f :: r => RLs I (s + r.length + 1) f.2.2 ∧ I 152 0 (s + r.length + 1) = zI f.1 ∧ I 153 0 (s + r.length + 1) = zI f.2.1 ∧ MFrm I s r
def MPs (I : II) (Lg : LJ) (P : PP) : Prop :=
  I 69 0 0 = zI (P.2.1.length + inS P : Nat) ∧ I 71 0 0 = zI (inS P) ∧ I 70 0 0 = zI P.2.2.2.2.2.length ∧ I 68 0 0 = zI (inS P + P.2.2.2.2.2.length : Nat) ∧
  RLs I (inS P) P.2.2.2.2.1 ∧ (inS P = 1 → RLs I 0 P.2.2.2.1) ∧ MFrm I (inS P) P.2.2.2.2.2 ∧
  (∀ (j : Nat) (s : List Int × LST), P.2.1[j]? = some s → RLs I (6 + j) s.2 ∧ Lg 1 0 j = zL (hlL s.1)) ∧ (∀ w, P.2.2.1 = some w → Lg 1 0 P.2.1.length = zL (hlL w))
abbrev mps9 : List Nat := 69 :: 71 :: 70 :: 68 :: 152 :: 153 :: mlv
theorem mps9_in : ∀ v ∈ mlv, v ∈ mps9 := by decide
theorem MFrm.fr {I I' : II} {Pr : Nat → Nat → Bool} {s : Nat} (hf : FrI Pr I I') (hP : ∀ v ∈ mps9, Pr v 0 = false) : ∀ fr : List FRM, MFrm I s fr → MFrm I' s fr
  | [], _ => trivial
  | f :: r, h => ⟨h.1.fr hf (fun v hv => hP v (mps9_in v hv)), by rw [hf _ _ (hP _ (by decide))]; exact h.2.1, by rw [hf _ _ (hP _ (by decide))]; exact h.2.2.1, MFrm.fr hf hP r h.2.2.2⟩
theorem MPs.fr {I I' : II} {Lg Lg' : LJ} {Pr : Nat → Nat → Bool} {P : PP} (h : MPs I Lg P) (hf : FrI Pr I I') (hP : ∀ v ∈ mps9, Pr v 0 = false) (hw : FrW Lg Lg') : MPs I' Lg' P := by
  obtain ⟨h1, h2, h3, h4, h5, h6, h7, h8, h9⟩ := h
  have hl : ∀ v ∈ mlv, Pr v 0 = false := fun v hv => hP v (mps9_in v hv)
  have hn : Lg' 1 = Lg 1 := hw _ (by decide)
  refine ⟨by rw [hf _ _ (hP _ (by decide))]; exact h1, by rw [hf _ _ (hP _ (by decide))]; exact h2, by rw [hf _ _ (hP _ (by decide))]; exact h3, by rw [hf _ _ (hP _ (by decide))]; exact h4, h5.fr hf hl, fun q => (h6 q).fr hf hl, MFrm.fr hf hP _ h7, fun j s hj => ?_, fun w hw => by rw [hn]; exact h9 w hw⟩
  obtain ⟨q1, q2⟩ := h8 j s hj
  exact ⟨q1.fr hf hl, by rw [hn]; exact q2⟩
theorem MFrm.ne {I I' : II} {s i : Nat} (hf : LFr i I I') : ∀ fr : List FRM, s + fr.length < i → MFrm I s fr → MFrm I' s fr
  | [], _, _ => trivial
  | f :: r, hi, h => by
    rw [List.length_cons] at hi
    exact ⟨h.1.ne hf (by omega), by rw [hf.1 _ _ rfl]; exact h.2.1, by rw [hf.1 _ _ rfl]; exact h.2.2.1, MFrm.ne hf r (by omega) h.2.2.2⟩
theorem MPs.inner {I : II} {Lg : LJ} {P : PP} (h : MPs I Lg P) : RLs I (inS P + P.2.2.2.2.2.length) (innerL P) := by
  obtain ⟨h1, h2, h3, h4, h5, h6, h7, h8, h9⟩ := h
  unfold innerL
  split
  · next q => rw [q]; exact h5
  · next f r q => rw [q] at h7 ⊢; exact h7.1
theorem MPs.add {I I' : II} {Lg : LJ} {P : PP} {p : Nat} {es : LST} (h : MPs I Lg P) (h4' : P.2.2.2.2.2.length ≤ 4) (hf : LFr (inS P + P.2.2.2.2.2.length) I I') (hr : RLs I' (inS P + P.2.2.2.2.2.length) (innerL P ++ es)) : MPs I' Lg (withL P p (addL P.2.2.2.2.1 P.2.2.2.2.2 es)) := by
  obtain ⟨h1, h2, h3, h4, h5, h6, h7, h8, h9⟩ := h
  have hin := inS_le (P := P)
  have hst : ∀ (j : Nat) (s : List Int × LST), P.2.1[j]? = some s → RLs I' (6 + j) s.2 ∧ Lg 1 0 j = zL (hlL s.1) := fun j s hj => ⟨(h8 j s hj).1.ne hf (by omega), (h8 j s hj).2⟩
  unfold innerL at hr
  unfold addL withL
  split
  · next q =>
    rw [q] at hr hf h3 h4
    simp only [List.length_nil, Nat.add_zero] at hr hf h3 h4
    exact ⟨by rw [hf.1 _ _ rfl]; exact h1, by rw [hf.1 _ _ rfl]; exact h2, by rw [hf.1 _ _ rfl]; exact h3, by rw [hf.1 _ _ rfl]; exact h4, hr, fun z => (h6 z).ne hf (by have z : inS P = 1 := z; omega), trivial, hst, h9⟩
  · next f r q =>
    rw [q] at hr hf h3 h4 h7
    simp only [List.length_cons] at hr hf h3 h4
    refine ⟨by rw [hf.1 _ _ rfl]; exact h1, by rw [hf.1 _ _ rfl]; exact h2, by rw [hf.1 _ _ rfl]; exact h3, by rw [hf.1 _ _ rfl]; exact h4, h5.ne hf ?_, fun z => (h6 z).ne hf (by have z : inS P = 1 := z; omega), ⟨hr, by rw [hf.1 _ _ rfl]; exact h7.2.1, by rw [hf.1 _ _ rfl]; exact h7.2.2.1, MFrm.ne (s := inS P) hf r (by omega) h7.2.2.2⟩, hst, h9⟩
    show inS P ≠ _
    omega

/-! All final references are set behind the constructors. -/
def allP : Nat → Nat → Nat → Prop := fun c j k => (False ∨ PfSL 4 c j k) ∨ (c = 12 ∧ j = 0 ∧ (mdF.take 53).elem k = true)
def allN : Nat → Nat := fun x => 0 + d1 11 x + dnSL 4 x + d1 12 x + cntL (mdT.take 53) x + d1 116 x
def dcP (i : Nat) (c j k : Nat) : Decidable (PfP i c j k) := by unfold PfP; infer_instance
def dcTp (i : Nat) (c j k : Nat) : Decidable (PfTp i c j k) := by unfold PfTp; infer_instance
def dcMc (i : Nat) (c j k : Nat) : Decidable (PfMc i c j k) := by unfold PfMc; infer_instance
def dcPt (i : Nat) (c j k : Nat) : Decidable (PfPt i c j k) := by unfold PfPt; infer_instance
def dcFl (i : Nat) (c j k : Nat) : Decidable (PfFl i c j k) := by unfold PfFl; infer_instance
def dcCw (c j k : Nat) : Decidable (PfCw c j k) := by unfold PfCw; infer_instance
def dcCp (c j k : Nat) : Decidable (PfCp c j k) := by unfold PfCp; infer_instance
def dcNg0 (c j k : Nat) : Decidable (PfNg0 c j k) := by unfold PfNg0; infer_instance
def dcNg (n c j k : Nat) : Decidable (PfNg n c j k) := by
  unfold PfNg
  haveI := dcNg0
  infer_instance
def dcRd0 (c j k : Nat) : Decidable (PfRd0 c j k) := by
  unfold PfRd0
  haveI := dcP
  infer_instance
def dcRd (n c j k : Nat) : Decidable (PfRd n c j k) := by
  unfold PfRd
  haveI := dcRd0
  infer_instance
def dcSL0 (c j k : Nat) : Decidable (PfSL0 c j k) := by
  unfold PfSL0
  haveI := dcP
  haveI := dcTp
  haveI := dcMc
  haveI := dcFl
  haveI := dcCw
  haveI := dcCp
  haveI := dcNg
  haveI := dcRd
  infer_instance
def dcSL (n c j k : Nat) : Decidable (PfSL n c j k) := by
  unfold PfSL
  haveI := dcSL0
  infer_instance
def dcAll (c j k : Nat) : Decidable (allP c j k) := by
  unfold allP
  haveI := dcSL
  infer_instance
def allB (c j k : Nat) : Bool := @decide (allP c j k) (dcAll c j k)
set_option maxRecDepth 100000 in
theorem allB_ok : ((List.range 117).all (fun c => (List.range (allN c)).all (fun i => (List.range 90).all (fun k => !needB c k || allB c i k)))) = true := by decide +kernel
theorem allP_ok : ∀ c, c < 117 → ∀ i, i < allN c → ∀ k, k < 90 → needB c k = true → allP c i k := by
  intro c hc i hi k hk hn
  have h := List.all_eq_true.mp (List.all_eq_true.mp (List.all_eq_true.mp allB_ok c (List.mem_range.mpr hc)) i (List.mem_range.mpr hi)) k (List.mem_range.mpr hk)
  rw [hn] at h
  exact @of_decide_eq_true _ (dcAll c i k) h
theorem need_lt : ∀ c, c < 117 → ∀ k, needB c k = true → k < 90 := by
  have h4 : ∀ c, c < 117 → (am_ck c).1 = 4 → (am_ck c).2.1 ≤ 89 := by decide +kernel
  have h0 : ∀ c, c < 117 → (am_ck c).1 = 0 → (am_ck c).2.2.1 ≤ 89 ∧ c < 13 := by decide +kernel
  intro c hc k hn
  unfold needB at hn
  rcases hck : am_ck c with ⟨a, N, x, y, t⟩
  have h4 := h4 c hc
  have h0 := h0 c hc
  rw [hck] at hn h4 h0
  match a, hn, h4, h0 with
  | 0, hn, _, h0 =>
    obtain ⟨h1, h2⟩ := h0 rfl
    apply Decidable.byContradiction
    intro h
    rw [am_slot_out hck h2 (by dsimp only at h1; omega)] at hn
    cases hn
  | 1, hn, _, _ => cases hn
  | 2, hn, _, _ => cases hn
  | 3, hn, _, _ => cases hn
  | 4, hn, h4, _ =>
    have h1 := h4 rfl
    have h2 : k < N := Nat.blt_eq.mp hn
    dsimp only at h1
    omega
  | 5, hn, _, _ => cases hn
  | _ + 6, hn, _, _ => cases hn
theorem all_full {G0 G : GG} (h : GR G0 G allP allN) (h0 : ∀ x, G0.2 x = 0) : ∀ c i k, c < 117 → i < G.2 c → needB c k = true → G.1 c i k = true := fun c i k hc hi hn => by
  rw [h.1, h0, Nat.zero_add] at hi
  exact h.2.2.2 c i k (allP_ok c hc i hi k (need_lt c hc k hn) hn)

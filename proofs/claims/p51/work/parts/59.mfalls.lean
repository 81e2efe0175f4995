-- ===== PURE LAYER: the reference's falls =====
def LoB (W : WT) : Prop := (0 ≤ W 6 ∧ W 6 ≤ 12) ∧ ∀ l, 0 ≤ l → l < W 6 → 0 ≤ loanW W l 2 ∧ loanW W l 2 ≤ 60
theorem WF.loB {n : Int} {W : WT} (h : WF n W) : LoB W := ⟨h.lo, fun l l0 l1 => by have := h.ln l l0 l1; omega⟩
section MB
variable {G : GH} {Q : Int → Prop}
theorem LoB.rng {W : WT} (h : LoB W) {f d x : Int} (hx0 : 0 ≤ x) (hx : x ≤ W 6) : 0 ≤ sumZ (fun l => if loanW W l 0 = f ∧ loanW W l 1 = d then loanW W l 2 else 0) x ∧ sumZ (fun l => if loanW W l 0 = f ∧ loanW W l 1 = d then loanW W l 2 else 0) x ≤ 60 * x := by
  constructor
  · refine sumZ_ge (fun i h0 h1 => ?_)
    have := h.2 i h0 (by omega)
    split <;> omega
  · refine sumZ_le hx0 (fun i h0 h1 => ?_)
    have := h.2 i h0 (by omega)
    split <;> omega
end MB
abbrev rankW (W : WT) (s p : Int) : Int := sumZ (fun p' => b2 (plaW W p' 1 = s)) p
theorem rankW_s {W : WT} {s p : Int} (h : 0 ≤ p) : rankW W s (p + 1) = rankW W s p + b2 (plaW W p 1 = s) := sumZ_s h
theorem rankW_mono {W : WT} {s : Int} {P : Int} (h0 : 0 ≤ P) : ∀ n : Nat, rankW W s P ≤ rankW W s (P + n)
  | 0 => by rw [show P + ((0 : Nat) : Int) = P by omega]; exact Int.le_refl _
  | n + 1 => by
    have ih := rankW_mono (W := W) (s := s) h0 n
    rw [show P + ((n + 1 : Nat) : Int) = (P + n) + 1 by omega, rankW_s (by omega)]
    have : 0 ≤ b2 (plaW W (P + (n : Int)) 1 = s) := b2_ge
    omega
theorem rankW_le {W : WT} {s P Q : Int} (h0 : 0 ≤ P) (h : P ≤ Q) : rankW W s P ≤ rankW W s Q := by
  have := rankW_mono (W := W) (s := s) h0 (Q - P).toNat
  rw [show P + ((Q - P).toNat : Int) = Q by omega] at this
  exact this
theorem rankW_rng {W : WT} {s P : Int} (h0 : 0 ≤ P) : 0 ≤ rankW W s P ∧ rankW W s P ≤ P := by
  refine ⟨sumZ_ge (fun _ _ _ => b2_ge), ?_⟩
  have := sumZ_le (f := fun P' => b2 (plaW W P' 1 = s)) (c := 1) h0 (fun _ _ _ => b2_le)
  unfold rankW
  omega
/-- W' is W in which the places p with F p are empty -/
def Fell (F : Int → Prop) (W' W : WT) : Prop := (∀ k, k < 276 ∨ 438 ≤ k → W' k = W k) ∧ ∀ p, 0 ≤ p → p < 54 → (F p → plaW W' p 0 = -1 ∧ plaW W' p 1 = -1 ∧ plaW W' p 2 = -1) ∧ (¬ F p → plaW W' p 0 = plaW W p 0 ∧ plaW W' p 1 = plaW W p 1 ∧ plaW W' p 2 = plaW W p 2)
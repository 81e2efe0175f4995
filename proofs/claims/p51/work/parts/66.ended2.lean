-- ===== PURE LAYER: W after the loan l ended =====
section EN
variable {W W' : WT} {l f d m : Int}
def Ended (W' W : WT) (l f d m : Int) : Prop := (∀ k : Nat, k < 456 → k ≠ 6 → k ≠ ((51 + (11 * f)) + (1 + d)).toNat → ¬ (84 + 4 * l ≤ (k : Int) ∧ (k : Int) < 84 + 4 * (W 6 - 1)) → W' k = W k) ∧ W' 6 = W 6 - 1 ∧ friW W' f (1 + d) = friW W f (1 + d) + m ∧ (∀ k : Nat, 84 + 4 * l ≤ (k : Int) → (k : Int) < 84 + 4 * (W 6 - 1) → W' k = W (k + 4)) ∧ loanW W l 0 = f ∧ loanW W l 1 = d ∧ loanW W l 2 = m
theorem Ended.low (q : Ended W' W l f d m) (hl : 0 ≤ l ∧ l < W 6) (h6 : W 6 ≤ 12) (hf : 0 ≤ f ∧ f < 3) (hd : 0 ≤ d ∧ d ≤ 9) {i h9 : Int} (i0 : 0 ≤ i) (i1 : i < l) (h0 : 0 ≤ h9) (h1 : h9 < 4) : loanW W' i h9 = loanW W i h9 := q.1 _ (by omega) (by omega) (by omega) (by omega)
theorem Ended.high (q : Ended W' W l f d m) (hl : 0 ≤ l ∧ l < W 6) {i h9 : Int} (i0 : l ≤ i) (i1 : i < W 6 - 1) (h0 : 0 ≤ h9) (h1 : h9 < 4) : loanW W' i h9 = loanW W (i + 1) h9 := by
  have z := q.2.2.2.1 ((84 + (4 * i)) + h9).toNat (by omega) (by omega)
  show W' ((84 + (4 * i)) + h9).toNat = W ((84 + (4 * (i + 1))) + h9).toNat
  rw [z, show ((84 + (4 * i)) + h9).toNat + 4 = ((84 + (4 * (i + 1))) + h9).toNat by omega]
theorem Ended.bor (q : Ended W' W l f d m) (hl : 0 ≤ l ∧ l < W 6) (h6 : W 6 ≤ 12) (hf : 0 ≤ f ∧ f < 3) (hd : 0 ≤ d ∧ d ≤ 9) (f' d' : Int) : borW W' f' d' = borW W f' d' - (if f' = f ∧ d' = d then m else 0) := by
  have k := sum_skip (g := fun i => if loanW W i 0 = f' ∧ loanW W i 1 = d' then loanW W i 2 else 0) (g' := fun i => if loanW W' i 0 = f' ∧ loanW W' i 1 = d' then loanW W' i 2 else 0) (l := l) (N := W 6 - 1) hl.1
    (fun i i0 i1 => by rw [q.low hl h6 hf hd i0 i1 (by omega) (by omega), q.low hl h6 hf hd i0 i1 (by omega) (by omega), q.low hl h6 hf hd i0 i1 (by omega) (by omega)])
    (fun i i0 i1 => by rw [q.high hl i0 i1 (by omega) (by omega), q.high hl i0 i1 (by omega) (by omega), q.high hl i0 i1 (by omega) (by omega)]) (W 6 - 1).toNat (by omega) (by omega)
  rw [show ((W 6 - 1).toNat : Int) = W 6 - 1 by omega, show W 6 - 1 + 1 = W 6 by omega] at k
  unfold borW
  rw [q.2.1, k]
  have e0 := q.2.2.2.2.1
  have e1 := q.2.2.2.2.2.1
  have e2 := q.2.2.2.2.2.2
  rw [e0, e1, e2]
  by_cases c : f' = f ∧ d' = d
  · rw [if_pos c, if_pos ⟨c.1.symm, c.2.symm⟩]
  · rw [if_neg c, if_neg (fun x => c ⟨x.1.symm, x.2.symm⟩)]
end EN

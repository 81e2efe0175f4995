-- ===== PURE LAYER: what the reference reads =====
theorem b2_eq0 {p : Prop} [Decidable p] (h : b2 p = 0) : ¬ p := fun q => by rw [b2_t q] at h; omega
theorem b2_ne0 {p : Prop} [Decidable p] (h : b2 p ≠ 0) : p := Decidable.byContradiction fun q => h (b2_f q)
theorem b2_eq1 {p : Prop} [Decidable p] (h : b2 p = 1) : p := b2_ne0 (by omega)
theorem cnt_loop {b : (Int → Int → Prop) → Int → Int → Prop} (p : Int → Prop) [DecidablePred p] (N : Int) (hN : 0 ≤ N ∧ N ≤ 1000)
    (hb : ∀ (k : Int → Int → Prop) (acc x : Int), 0 ≤ x → x ≤ N → (0 ≤ acc ∧ acc ≤ x) → (x = N → acc = sumZ (fun i => b2 (p i)) N) → (x < N → p x → k (acc + 1) (x + 1)) → (x < N → ¬ p x → k (acc + 0) (x + 1)) → b k acc x) : loop2 b 0 0 := by
  refine sum_loop (fun i => b2 (p i)) N hN.1 (fun k acc x h0 h1 hacc kk => ?_)
  have g1 : 0 ≤ sumZ (fun i => b2 (p i)) x := sumZ_ge (fun i _ _ => b2_ge)
  have g2 : sumZ (fun i => b2 (p i)) x ≤ 1 * x := sumZ_le h0 (fun i _ _ => b2_le)
  refine hb k acc x h0 h1 ⟨by omega, by omega⟩ (fun e => by subst e; omega) (fun hx hp => ?_) (fun hx hp => ?_)
  · have := kk hx
    rw [b2_t hp] at this
    exact this
  · have := kk hx
    rw [b2_f hp] at this
    exact this
section MREAD
variable {G : GH} {Q : Int → Prop} {Z : Int → GH → Prop} {j : Int}
theorem WF.loan_rng {W : WT} (h : WF j W) {f d x : Int} (hx0 : 0 ≤ x) (hx : x ≤ W 6) : 0 ≤ sumZ (fun l => if loanW W l 0 = f ∧ loanW W l 1 = d then loanW W l 2 else 0) x ∧ sumZ (fun l => if loanW W l 0 = f ∧ loanW W l 1 = d then loanW W l 2 else 0) x ≤ 60 * x := by
  constructor
  · refine sumZ_ge (fun i h0 h1 => ?_)
    have := h.ln i h0 (by omega)
    split <;> omega
  · refine sumZ_le hx0 (fun i h0 h1 => ?_)
    have := h.ln i h0 (by omega)
    split <;> omega
def ahW (W : WT) : Int := sumZ (fun p => b2 (plaW W p 0 ≠ -1)) 54
def tuW (W : WT) : Int := sumZ (fun p => b2 (2 ≤ plaW W p 2)) 54
def baW (W : WT) : Int := sumZ (fun p => b2 (plaW W p 2 = 1 ∨ plaW W p 2 = 3)) 54
def boW (W : WT) : Int := sumZ (fun p => b2 (plaW W p 0 ≠ -1 ∧ ¬ plaW W p 1 < 12)) 54
theorem WF.row_sum {W : WT} (h : WF j W) {x : Int} (h0 : 0 ≤ x) (h1 : x < W 0) : inR (frstW W x + rowW W x) := by
  have := h.frst h0 (by omega)
  have := h.ro x h0 h1
  have := h.bo
  exact ⟨by omega, by omega⟩
def unitW (c : Int) : Int := if c = 0 then 100 else if c = 1 then 10 else 1
def ddW (W : WT) (p : Int) : Int := if hunW W (p / 3) = -1 then -1 else if hunW W (p / 3) < unitW (p % 3) then -1 else hunW W (p / 3) / unitW (p % 3) % 10
end MREAD

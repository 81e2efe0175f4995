-- ===== PURE LAYER: the abstract state W (what the reference's row w holds), its parts, what holds of it always =====
abbrev WT : Type := Nat → Int
abbrev rowW (W : WT) (b : Int) : Int := W (12 + b).toNat
abbrev cardW (W : WT) (k h : Int) : Int := W ((15 + (3 * k)) + h).toNat
abbrev friW (W : WT) (f h : Int) : Int := W ((51 + (11 * f)) + h).toNat
abbrev loanW (W : WT) (l h : Int) : Int := W ((84 + (4 * l)) + h).toNat
abbrev servW (W : WT) (s h : Int) : Int := W ((132 + (9 * s)) + h).toNat
abbrev plaW (W : WT) (p h : Int) : Int := W ((276 + (3 * p)) + h).toNat
abbrev hunW (W : WT) (r : Int) : Int := W (438 + r).toNat
def frontW (tf : Int) (W : WT) (s : Int) : Int := if s = 42 then tf else if s < 12 then cardW W s 0 else (s - 12) % 10
def backW (W : WT) (s : Int) : Int := if s = 42 then -1 else if s < 12 then cardW W s 1 else -1
def borW (W : WT) (f d : Int) : Int := sumZ (fun l => if loanW W l 0 = f ∧ loanW W l 1 = d then loanW W l 2 else 0) (W 6)
def cntW (tf : Int) (W : WT) (s : Int) : Int := if s = 42 then (if tf = -1 then 0 else 1) else if s < 12 then (if s < W 3 then cardW W s 2 else 0) else borW W ((s - 12) / 10) ((s - 12) % 10)
def othW (d : Int) : Int := if d = 6 then 9 else if d = 9 then 6 else -1
def wayW (tf : Int) (W : WT) (s d : Int) : Int := if frontW tf W s = d then 0 else if backW W s = d then 1 else if W 1 = 0 ∨ othW d = -1 then -1 else if frontW tf W s = othW d then 2 else if backW W s = othW d then 3 else -1
def hgW (W : WT) (s : Int) : Int := sumZ (fun p => b2 (plaW W p 1 = s)) 54
def frstW (W : WT) (b : Int) : Int := sumZ (rowW W) b
def allRW (W : WT) : Int := frstW W (W 0)
def bdW (W : WT) (r : Int) : Int := if r < frstW W 1 then 0 else if r < frstW W 2 then 1 else 2
def dueIx (W : WT) (r : Int) : Int := if W 2 = 1 then r else r - frstW W (bdW W r)
def dueW (W : WT) (s r : Int) : Int := if dueIx W r < servW W s 0 then servW W s (1 + dueIx W r) else -1
/-- what always holds; j: calls so far -/
def WF (j : Int) (W : WT) : Prop :=
  (1 ≤ W 0 ∧ W 0 ≤ 3) ∧ (W 1 = 0 ∨ W 1 = 1) ∧ (W 2 = 0 ∨ W 2 = 1) ∧ (0 ≤ W 3 ∧ W 3 ≤ 12) ∧ (0 ≤ W 4 ∧ W 4 ≤ 3) ∧ (0 ≤ W 5 ∧ W 5 ≤ 16) ∧ (0 ≤ W 6 ∧ W 6 ≤ 12) ∧ (-1 ≤ W 7 ∧ W 7 ≤ 15) ∧
  (0 ≤ W 8 ∧ W 8 ≤ j) ∧ (0 ≤ W 9 ∧ W 9 ≤ 108 * j) ∧ (0 ≤ W 10 ∧ W 10 ≤ 18 * j) ∧ (0 ≤ W 11 ∧ W 11 ≤ 18 * j) ∧
  (∀ b, 0 ≤ b → b < W 0 → 1 ≤ rowW W b ∧ rowW W b ≤ 6) ∧
  (∀ k, 0 ≤ k → k < W 3 → (0 ≤ cardW W k 0 ∧ cardW W k 0 ≤ 9) ∧ (-1 ≤ cardW W k 1 ∧ cardW W k 1 ≤ 9) ∧ (0 ≤ cardW W k 2 ∧ cardW W k 2 ≤ 60)) ∧
  (∀ f, 0 ≤ f → f < W 4 → (1 ≤ friW W f 0 ∧ friW W f 0 ≤ 9) ∧ ∀ d, 0 ≤ d → d < 10 → 0 ≤ friW W f (1 + d) ∧ friW W f (1 + d) + borW W f d ≤ 20) ∧
  (∀ l, 0 ≤ l → l < W 6 → (0 ≤ loanW W l 0 ∧ loanW W l 0 < W 4) ∧ (0 ≤ loanW W l 1 ∧ loanW W l 1 ≤ 9) ∧ (1 ≤ loanW W l 2 ∧ loanW W l 2 ≤ 60) ∧ (1 ≤ loanW W l 3 ∧ loanW W l 3 ≤ 9)) ∧
  (∀ s, 0 ≤ s → s < W 5 → (1 ≤ servW W s 0 ∧ servW W s 0 ≤ 8) ∧ ∀ i, 0 ≤ i → i < servW W s 0 → 1 ≤ servW W s (1 + i) ∧ servW W s (1 + i) ≤ 999) ∧
  (∀ p, 0 ≤ p → p < 54 → (-1 ≤ plaW W p 0 ∧ plaW W p 0 ≤ 9) ∧ (-1 ≤ plaW W p 1 ∧ plaW W p 1 < 42) ∧ (-1 ≤ plaW W p 2 ∧ plaW W p 2 ≤ 3) ∧ (plaW W p 0 = -1 ↔ plaW W p 1 = -1) ∧ (plaW W p 0 = -1 ↔ plaW W p 2 = -1)) ∧
  (∀ p, 3 * allRW W ≤ p → p < 54 → plaW W p 0 = -1) ∧
  (∀ r, 0 ≤ r → r < 18 → hunW W r = -1 ∨ (1 ≤ hunW W r ∧ hunW W r ≤ 999)) ∧
  (∀ r, allRW W ≤ r → r < 18 → hunW W r = -1) ∧
  (∀ s, 0 ≤ s → s < 42 → hgW W s ≤ cntW (-1) W s) ∧ (W 7 = -1 → ∀ p, 0 ≤ p → p < 54 → plaW W p 0 = -1)
section WFP
variable {j : Int} {W : WT}
theorem WF.bo (h : WF j W) : 1 ≤ W 0 ∧ W 0 ≤ 3 := h.1
theorem WF.tu (h : WF j W) : W 1 = 0 ∨ W 1 = 1 := h.2.1
theorem WF.sp (h : WF j W) : W 2 = 0 ∨ W 2 = 1 := h.2.2.1
theorem WF.ow (h : WF j W) : 0 ≤ W 3 ∧ W 3 ≤ 12 := h.2.2.2.1
theorem WF.fr (h : WF j W) : 0 ≤ W 4 ∧ W 4 ≤ 3 := h.2.2.2.2.1
theorem WF.se (h : WF j W) : 0 ≤ W 5 ∧ W 5 ≤ 16 := h.2.2.2.2.2.1
theorem WF.lo (h : WF j W) : 0 ≤ W 6 ∧ W 6 ≤ 12 := h.2.2.2.2.2.2.1
theorem WF.ha (h : WF j W) : -1 ≤ W 7 ∧ W 7 ≤ 15 := h.2.2.2.2.2.2.2.1
theorem WF.he (h : WF j W) : 0 ≤ W 8 ∧ W 8 ≤ j := h.2.2.2.2.2.2.2.2.1
theorem WF.wo (h : WF j W) : 0 ≤ W 9 ∧ W 9 ≤ 108 * j := h.2.2.2.2.2.2.2.2.2.1
theorem WF.hu (h : WF j W) : 0 ≤ W 10 ∧ W 10 ≤ 18 * j := h.2.2.2.2.2.2.2.2.2.2.1
theorem WF.ou (h : WF j W) : 0 ≤ W 11 ∧ W 11 ≤ 18 * j := h.2.2.2.2.2.2.2.2.2.2.2.1
theorem WF.ro (h : WF j W) : ∀ b, 0 ≤ b → b < W 0 → 1 ≤ rowW W b ∧ rowW W b ≤ 6 := h.2.2.2.2.2.2.2.2.2.2.2.2.1
theorem WF.ca (h : WF j W) : ∀ k, 0 ≤ k → k < W 3 → (0 ≤ cardW W k 0 ∧ cardW W k 0 ≤ 9) ∧ (-1 ≤ cardW W k 1 ∧ cardW W k 1 ≤ 9) ∧ (0 ≤ cardW W k 2 ∧ cardW W k 2 ≤ 60) := h.2.2.2.2.2.2.2.2.2.2.2.2.2.1
theorem WF.fd (h : WF j W) : ∀ f, 0 ≤ f → f < W 4 → (1 ≤ friW W f 0 ∧ friW W f 0 ≤ 9) ∧ ∀ d, 0 ≤ d → d < 10 → 0 ≤ friW W f (1 + d) ∧ friW W f (1 + d) + borW W f d ≤ 20 := h.2.2.2.2.2.2.2.2.2.2.2.2.2.2.1
theorem WF.ln (h : WF j W) : ∀ l, 0 ≤ l → l < W 6 → (0 ≤ loanW W l 0 ∧ loanW W l 0 < W 4) ∧ (0 ≤ loanW W l 1 ∧ loanW W l 1 ≤ 9) ∧ (1 ≤ loanW W l 2 ∧ loanW W l 2 ≤ 60) ∧ (1 ≤ loanW W l 3 ∧ loanW W l 3 ≤ 9) := h.2.2.2.2.2.2.2.2.2.2.2.2.2.2.2.1
theorem WF.sv (h : WF j W) : ∀ s, 0 ≤ s → s < W 5 → (1 ≤ servW W s 0 ∧ servW W s 0 ≤ 8) ∧ ∀ i, 0 ≤ i → i < servW W s 0 → 1 ≤ servW W s (1 + i) ∧ servW W s (1 + i) ≤ 999 := h.2.2.2.2.2.2.2.2.2.2.2.2.2.2.2.2.1
theorem WF.pl (h : WF j W) : ∀ p, 0 ≤ p → p < 54 → (-1 ≤ plaW W p 0 ∧ plaW W p 0 ≤ 9) ∧ (-1 ≤ plaW W p 1 ∧ plaW W p 1 < 42) ∧ (-1 ≤ plaW W p 2 ∧ plaW W p 2 ≤ 3) ∧ (plaW W p 0 = -1 ↔ plaW W p 1 = -1) ∧ (plaW W p 0 = -1 ↔ plaW W p 2 = -1) := h.2.2.2.2.2.2.2.2.2.2.2.2.2.2.2.2.2.1
theorem WF.pf (h : WF j W) : ∀ p, 3 * allRW W ≤ p → p < 54 → plaW W p 0 = -1 := h.2.2.2.2.2.2.2.2.2.2.2.2.2.2.2.2.2.2.1
theorem WF.hr (h : WF j W) : ∀ r, 0 ≤ r → r < 18 → hunW W r = -1 ∨ (1 ≤ hunW W r ∧ hunW W r ≤ 999) := h.2.2.2.2.2.2.2.2.2.2.2.2.2.2.2.2.2.2.2.1
theorem WF.hf (h : WF j W) : ∀ r, allRW W ≤ r → r < 18 → hunW W r = -1 := h.2.2.2.2.2.2.2.2.2.2.2.2.2.2.2.2.2.2.2.2.1
theorem WF.hc (h : WF j W) : ∀ s, 0 ≤ s → s < 42 → hgW W s ≤ cntW (-1) W s := h.2.2.2.2.2.2.2.2.2.2.2.2.2.2.2.2.2.2.2.2.2.1
theorem WF.nh (h : WF j W) : W 7 = -1 → ∀ p, 0 ≤ p → p < 54 → plaW W p 0 = -1 := h.2.2.2.2.2.2.2.2.2.2.2.2.2.2.2.2.2.2.2.2.2.2
theorem WF.mono {j' : Int} (hj : j ≤ j') (h : WF j W) : WF j' W := by
  obtain ⟨a1, a2, a3, a4, a5, a6, a7, a8, a9, a10, a11, a12, r⟩ := h
  exact ⟨a1, a2, a3, a4, a5, a6, a7, a8, ⟨a9.1, by omega⟩, ⟨a10.1, by omega⟩, ⟨a11.1, by omega⟩, ⟨a12.1, by omega⟩, r⟩
/-- the three sums of rows -/
theorem frst_0 : frstW W 0 = 0 := rfl
theorem frst_1 : frstW W 1 = rowW W 0 := by
  unfold frstW
  rw [show (1 : Int) = 0 + 1 by omega, sumZ_s (by omega), sumZ_0]; omega
theorem frst_2 : frstW W 2 = rowW W 0 + rowW W 1 := by
  unfold frstW
  rw [show (2 : Int) = 1 + 1 by omega, sumZ_s (by omega)]
  have := frst_1 (W := W)
  unfold frstW at this
  rw [this]
theorem frst_3 : frstW W 3 = rowW W 0 + rowW W 1 + rowW W 2 := by
  unfold frstW
  rw [show (3 : Int) = 2 + 1 by omega, sumZ_s (by omega)]
  have := frst_2 (W := W)
  unfold frstW at this
  rw [this]
theorem frst_s {b : Int} (h : 0 ≤ b) : frstW W (b + 1) = frstW W b + rowW W b := sumZ_s h
theorem WF.allR (h : WF j W) : 1 ≤ allRW W ∧ allRW W ≤ 18 := by
  have h0 := h.bo
  have q0 := h.ro 0 (by omega) (by omega)
  have e : W 0 = 1 ∨ W 0 = 2 ∨ W 0 = 3 := by omega
  unfold allRW
  rcases e with e | e | e
  · rw [e, frst_1]; omega
  · have q1 := h.ro 1 (by omega) (by omega)
    rw [e, frst_2]; omega
  · have q1 := h.ro 1 (by omega) (by omega)
    have q2 := h.ro 2 (by omega) (by omega)
    rw [e, frst_3]; omega
/-- firstRow grows over the boards that there are -/
theorem WF.frst (h : WF j W) {b : Int} (h0 : 0 ≤ b) (h1 : b ≤ W 0) : 0 ≤ frstW W b ∧ frstW W b ≤ 6 * b ∧ frstW W b ≤ allRW W := by
  have hb := h.bo
  have q0 := h.ro 0 (by omega) (by omega)
  have e : W 0 = 1 ∨ W 0 = 2 ∨ W 0 = 3 := by omega
  have f0 := frst_0 (W := W); have f1 := frst_1 (W := W); have f2 := frst_2 (W := W); have f3 := frst_3 (W := W)
  unfold allRW
  rcases e with e | e | e
  · rw [e]
    have : b = 0 ∨ b = 1 := by omega
    rcases this with rfl | rfl <;> omega
  · have q1 := h.ro 1 (by omega) (by omega)
    rw [e]
    have : b = 0 ∨ b = 1 ∨ b = 2 := by omega
    rcases this with rfl | rfl | rfl <;> omega
  · have q1 := h.ro 1 (by omega) (by omega)
    have q2 := h.ro 2 (by omega) (by omega)
    rw [e]
    have : b = 0 ∨ b = 1 ∨ b = 2 ∨ b = 3 := by omega
    rcases this with rfl | rfl | rfl | rfl <;> omega
/-- the board of a row -/
theorem WF.bd (h : WF j W) {r : Int} (h0 : 0 ≤ r) (h1 : r < allRW W) : 0 ≤ bdW W r ∧ bdW W r < W 0 ∧ frstW W (bdW W r) ≤ r ∧ r < frstW W (bdW W r + 1) := by
  have hb := h.bo
  have f0 := frst_0 (W := W); have f1 := frst_1 (W := W); have f2 := frst_2 (W := W); have f3 := frst_3 (W := W)
  have e : W 0 = 1 ∨ W 0 = 2 ∨ W 0 = 3 := by omega
  unfold allRW at h1
  unfold bdW
  by_cases c1 : r < frstW W 1
  · rw [if_pos c1]
    show _ ∧ _ ∧ frstW W 0 ≤ r ∧ r < frstW W 1
    omega
  · rw [if_neg c1]
    by_cases c2 : r < frstW W 2
    · rw [if_pos c2]
      show _ ∧ _ ∧ frstW W 1 ≤ r ∧ r < frstW W 2
      rcases e with e | e | e
      · rw [e] at h1; omega
      · omega
      · omega
    · rw [if_neg c2]
      show _ ∧ _ ∧ frstW W 2 ≤ r ∧ r < frstW W 3
      rcases e with e | e | e
      · rw [e] at h1; omega
      · rw [e] at h1; omega
      · rw [e] at h1; omega
theorem WF.bd_eq (h : WF j W) {b r : Int} (h0 : 0 ≤ b) (h1 : b < W 0) (h2 : 0 ≤ r) (h3 : r < rowW W b) : bdW W (frstW W b + r) = b := by
  have hb := h.bo
  have f0 := frst_0 (W := W); have f1 := frst_1 (W := W); have f2 := frst_2 (W := W); have f3 := frst_3 (W := W)
  have q0 := h.ro 0 (by omega) (by omega)
  have : b = 0 ∨ b = 1 ∨ b = 2 := by omega
  unfold bdW
  rcases this with rfl | rfl | rfl
  · rw [if_pos (by omega)]
  · rw [if_neg (by omega), if_pos (by omega)]
  · have q1 := h.ro 1 (by omega) (by omega)
    rw [if_neg (by omega), if_neg (by omega)]
end WFP

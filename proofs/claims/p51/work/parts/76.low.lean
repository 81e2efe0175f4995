-- ===== PURE LAYER: what the reference reads while it hangs: cards, loans and services are W's =====
def Low (G : GH) (W : WT) : Prop := ∀ k, k < 276 → k ≠ 7 → G 273 k = W k
section LOW
variable {G : GH} {W : WT} {Q : Int → Prop} {j : Int}
theorem Low.row (l : Low G W) {b : Int} (b0 : 0 ≤ b) (b1 : b < 3) : G 273 (12 + b).toNat = rowW W b := l _ (by omega) (by omega)
theorem Low.serv (l : Low G W) {s h9 : Int} (s0 : 0 ≤ s) (s1 : s < 16) (h0 : 0 ≤ h9) (h1 : h9 < 9) : servW (G 273) s h9 = servW W s h9 := l _ (by omega) (by omega)
theorem Low.card (l : Low G W) {s h9 : Int} (s0 : 0 ≤ s) (s1 : s < 12) (h0 : 0 ≤ h9) (h1 : h9 < 3) : cardW (G 273) s h9 = cardW W s h9 := l _ (by omega) (by omega)
theorem frst_mono {x y : Int} (h : WF j W) (h0 : 0 ≤ x) (hxy : x ≤ y) (hy : y ≤ W 0) : frstW W x ≤ frstW W y := by
  have hbo := h.bo
  have f0 := frst_0 (W := W); have f1 := frst_1 (W := W); have f2 := frst_2 (W := W); have f3 := frst_3 (W := W)
  have q0 := h.ro 0 (by omega) (by omega)
  have q1 : 1 < W 0 → 1 ≤ rowW W 1 ∧ rowW W 1 ≤ 6 := fun q => h.ro 1 (by omega) q
  have q2 : 2 < W 0 → 1 ≤ rowW W 2 ∧ rowW W 2 ≤ 6 := fun q => h.ro 2 (by omega) q
  have ex : x = 0 ∨ x = 1 ∨ x = 2 ∨ x = 3 := by omega
  have ey : y = 0 ∨ y = 1 ∨ y = 2 ∨ y = 3 := by omega
  rcases ex with rfl | rfl | rfl | rfl <;> rcases ey with rfl | rfl | rfl | rfl <;> omega
theorem due_rng {s r : Int} (h : WF j W) (hs : 0 ≤ s ∧ s < W 5) (hr : 0 ≤ r ∧ r < allRW W) : dueW W s r = -1 ∨ (1 ≤ dueW W s r ∧ dueW W s r ≤ 999) := by
  have hd := h.bd hr.1 hr.2
  have hbo := h.bo
  have hsv := h.sv s hs.1 hs.2
  have hf := h.frst hd.1 (by omega)
  have hi : 0 ≤ dueIx W r := by
    unfold dueIx
    split <;> omega
  unfold dueW
  by_cases c : dueIx W r < servW W s 0
  · rw [if_pos c]
    exact Or.inr (hsv.2 _ hi c)
  · rw [if_neg c]; exact Or.inl rfl
theorem way_low {tf s d : Int} (l : Low G W) (hs : 0 ≤ s ∧ s ≤ 42) : wayW tf (G 273) s d = wayW tf W s d := by
  have e1 : frontW tf (G 273) s = frontW tf W s := by
    unfold frontW
    by_cases c : s = 42
    · rw [if_pos c, if_pos c]
    · rw [if_neg c, if_neg c]
      by_cases c2 : s < 12
      · rw [if_pos c2, if_pos c2, l.card hs.1 c2 (by omega) (by omega)]
      · rw [if_neg c2, if_neg c2]
  have e2 : backW (G 273) s = backW W s := by
    unfold backW
    by_cases c : s = 42
    · rw [if_pos c, if_pos c]
    · rw [if_neg c, if_neg c]
      by_cases c2 : s < 12
      · rw [if_pos c2, if_pos c2, l.card hs.1 c2 (by omega) (by omega)]
      · rw [if_neg c2, if_neg c2]
  unfold wayW
  rw [e1, e2, l 1 (by omega) (by omega)]
theorem Low.loB (l : Low G W) (h : WF j W) : LoB (G 273) := by
  have lo := h.lo
  refine ⟨by rw [l 6 (by omega) (by omega)]; exact lo, fun i i0 i1 => ?_⟩
  rw [l 6 (by omega) (by omega)] at i1
  have e : loanW (G 273) i 2 = loanW W i 2 := l _ (by omega) (by omega)
  rw [e]; exact h.loB.2 i i0 i1
end LOW
-- the set of the digits with P
def setN (P : Int → Prop) [DecidablePred P] : Nat → Nat
  | 0 => 0
  | k + 1 => setN P k ||| (if P k then 2 ^ k else 0)
theorem setN_in {P : Int → Prop} [DecidablePred P] {d : Int} (d0 : 0 ≤ d) : ∀ k : Nat, inS (setN P k) d ↔ d < (k : Int) ∧ P d
  | 0 => ⟨fun w => absurd w inS_0, fun w => by omega⟩
  | k + 1 => by
    show inS (setN P k ||| (if P k then 2 ^ k else 0)) d ↔ _
    rw [inS_or, setN_in d0 k]
    have eb : inS (2 ^ k) d ↔ d = (k : Int) := by
      have := inS_bit (d := (k : Int)) (e := d) (by omega) d0
      rw [Int.toNat_natCast] at this
      exact this
    by_cases c : P k
    · rw [if_pos c, eb]
      refine ⟨fun w => ?_, fun w => ?_⟩
      · rcases w with w | w
        · exact ⟨by omega, w.2⟩
        · exact ⟨by omega, by rw [w]; exact c⟩
      · by_cases e : d = (k : Int)
        · exact Or.inr e
        · exact Or.inl ⟨by omega, w.2⟩
    · rw [if_neg c]
      refine ⟨fun w => ?_, fun w => ?_⟩
      · rcases w with w | w
        · exact ⟨by omega, w.2⟩
        · exact absurd w inS_0
      · by_cases e : d = (k : Int)
        · rw [e] at w; exact absurd w.2 c
        · exact Or.inl ⟨by omega, w.2⟩
theorem setN_lt {P : Int → Prop} [DecidablePred P] : ∀ k : Nat, setN P k < 2 ^ k
  | 0 => by show 0 < 2 ^ 0; decide
  | k + 1 => by
    have ih := setN_lt (P := P) k
    have e : 2 ^ (k + 1) = 2 ^ k + 2 ^ k := by rw [Nat.pow_succ]; omega
    refine Nat.or_lt_two_pow (by omega) ?_
    split
    · have := Nat.two_pow_pos k
      omega
    · exact Nat.two_pow_pos _
theorem set_ext {x y : Nat} (hx : x < 1024) (hy : y < 1024) (h : ∀ d : Int, 0 ≤ d → d < 10 → (inS x d ↔ inS y d)) : x = y := by
  refine Nat.eq_of_testBit_eq (fun i => ?_)
  by_cases c : i < 10
  · have k := h (i : Int) (by omega) (by omega)
    have k2 : x.testBit (i : Int).toNat = true ↔ y.testBit (i : Int).toNat = true := k
    rw [Int.toNat_natCast] at k2
    exact Bool.eq_iff_iff.mpr k2
  · have p : 2 ^ 10 ≤ 2 ^ i := Nat.pow_le_pow_right (by omega) (by omega)
    rw [Nat.testBit_lt_two_pow (Nat.lt_of_lt_of_le hx p), Nat.testBit_lt_two_pow (Nat.lt_of_lt_of_le hy p)]
/-- the digits that a sort can show, as a set -/
def shW (tf : Int) (W : WT) (s : Int) : Nat := setN (fun d => wayW tf W s d ≠ -1) 10
theorem shW_lt {tf : Int} {W : WT} {s : Int} : shW tf W s < 1024 := setN_lt 10
theorem shW_in {tf : Int} {W : WT} {s d : Int} (hd : 0 ≤ d ∧ d < 10) : inS (shW tf W s) d ↔ wayW tf W s d ≠ -1 := by
  unfold shW
  rw [setN_in hd.1]
  exact ⟨fun w => w.2, fun w => ⟨hd.2, w⟩⟩
-- ===== PURE LAYER: buy =====
section A7
variable {W W' : WT} {a : Nat} {n n' : Int} {G' : GH}
variable {j : Nat} {G : GH} {K : GH → Prop} {L : Nat} {xs : Nat → Int32} {i4 : Int}
/-- the count of the own card c is m, nothing else changed -/
def CntIs (W' W : WT) (c m : Int) : Prop := (∀ k, k < 456 → k ≠ ((15 + (3 * c)) + 2).toNat → W' k = W k) ∧ cardW W' c 2 = m
theorem CntIs.facts {c m : Int} (q : CntIs W' W c m) (h : WF n W) (hc : 0 ≤ c ∧ c < W 3) : OutC W' W ∧ W' 3 = W 3 ∧ (∀ k h9, 0 ≤ k → k < 12 → 0 ≤ h9 → h9 < 2 → cardW W' k h9 = cardW W k h9) ∧ (∀ s, 0 ≤ s → s < 42 → cntW (-1) W' s = if s = c then m else cntW (-1) W s) := by
  have ow := h.ow
  obtain ⟨q1, q2⟩ := q
  have e3 : W' 3 = W 3 := q1 3 (by omega) (by omega)
  refine ⟨fun k k0 k1 k2 => q1 k k0 (by omega), e3, fun k h9 k0 k1 h0 h1 => q1 _ (by omega) (by omega), fun s s0 s1 => ?_⟩
  by_cases cs : s < 12
  · rw [cnt_own s0 cs, cnt_own s0 cs, e3]
    by_cases c2 : s = c
    · rw [if_pos c2, if_pos (by omega), c2]; exact q2
    · rw [if_neg c2]
      have : cardW W' s 2 = cardW W s 2 := q1 _ (by omega) (by omega)
      rw [this]
  · rw [cnt_bor (by omega) s1, cnt_bor (by omega) s1, if_neg (by omega)]
    exact rR_bor (q1 6 (by omega) (by omega)) (fun k p0 p1 => q1 k (by omega) (by omega)) h.lo.2
end A7

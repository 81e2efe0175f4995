-- ===== PURE LAYER: counts after the loan l ended =====
section EN3
variable {W W' : WT} {l f d m : Int}
theorem Ended.out6 (q : Ended W' W l f d m) (hl : 0 ≤ l ∧ l < W 6) (h6 : W 6 ≤ 12) (hf : 0 ≤ f ∧ f < 3) (hd : 0 ≤ d ∧ d ≤ 9) : OutL W' W := fun k k0 k1 k2 => q.1 k k0 k1 (by omega) (by omega)
theorem Ended.fri0 (q : Ended W' W l f d m) (hl : 0 ≤ l ∧ l < W 6) (h6 : W 6 ≤ 12) (hf : 0 ≤ f ∧ f < 3) (hd : 0 ≤ d ∧ d ≤ 9) {f' h9 : Int} (f0 : 0 ≤ f') (f1 : f' < 3) (h0 : 0 ≤ h9) (h1 : h9 < 11) (hne : ¬ (f' = f ∧ h9 = 1 + d)) : friW W' f' h9 = friW W f' h9 := q.1 _ (by omega) (by omega) (by omega) (by omega)
theorem Ended.cnt (q : Ended W' W l f d m) (hl : 0 ≤ l ∧ l < W 6) (h6 : W 6 ≤ 12) (hf : 0 ≤ f ∧ f < 3) (hd : 0 ≤ d ∧ d ≤ 9) (s : Int) (s0 : 0 ≤ s) (s1 : s < 42) : cntW (-1) W' s = cntW (-1) W s - (if s = 12 + (f * 10 + d) then m else 0) := by
  have o := q.out6 hl h6 hf hd
  by_cases c : s < 12
  · rw [cnt_own s0 c, cnt_own s0 c, o 3 (by omega) (by omega) (by omega), if_neg (show ¬ s = 12 + (f * 10 + d) by omega), rR_card (fun k q0 q1 => o k (by omega) (by omega) (by omega)) s0 c (by omega) (by omega)]; omega
  · rw [cnt_bor (by omega) s1, cnt_bor (by omega) s1, q.bor hl h6 hf hd]
    by_cases c2 : s = 12 + (f * 10 + d)
    · rw [if_pos c2, if_pos (by omega)]
    · rw [if_neg c2, if_neg (by omega)]
end EN3

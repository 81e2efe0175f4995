-- ===== PURE LAYER: the loans after one ended =====
theorem sum_skip {g g' : Int → Int} {l N : Int} (hl : 0 ≤ l) (h1 : ∀ i, 0 ≤ i → i < l → g' i = g i) (h2 : ∀ i, l ≤ i → i < N → g' i = g (i + 1)) : ∀ n : Nat, l ≤ (n : Int) → (n : Int) ≤ N → sumZ g' n = sumZ g (n + 1) - g l
  | 0, a, _ => by
    have e : l = 0 := by omega
    subst e
    have z : sumZ g (((0 : Nat) : Int) + 1) = sumZ g ((0 : Nat) : Int) + g ((0 : Nat) : Int) := sumZ_s (by omega)
    rw [z]
    show (0 : Int) = 0 + g 0 - g 0
    omega
  | n + 1, a, b => by
    have z1 : sumZ g' ((n : Int) + 1) = sumZ g' n + g' n := sumZ_s (by omega)
    have z2 : sumZ g ((n : Int) + 1 + 1) = sumZ g ((n : Int) + 1) + g ((n : Int) + 1) := sumZ_s (by omega)
    rw [show ((n + 1 : Nat) : Int) = (n : Int) + 1 by omega]
    by_cases c : l ≤ (n : Int)
    · have ih := sum_skip hl h1 h2 n c (by omega)
      have e := h2 n c (by omega)
      rw [z1, z2, ih, e]; omega
    · have e : l = (n : Int) + 1 := by omega
      have s : sumZ g' ((n : Int) + 1) = sumZ g ((n : Int) + 1) := sumZ_congr (fun i i0 i1 => h1 i i0 (by omega))
      rw [s, z2, e]; omega

-- ===== the start: written by wip/p51/mkmain.py =====
theorem st_ne10 : ∀ i, i < 5 → ∀ j, j < 15 → 10 + i ≠ j → Cond.not (Cond.eq (strTm (10 + i)) (strTm j)) ∈ preF ∨ Cond.not (Cond.eq (strTm j) (strTm (10 + i))) ∈ preF := by decide +kernel
theorem st_ne : ∀ i, i < 15 → ∀ j, j < 15 → i ≠ j → Cond.not (Cond.eq (strTm i) (strTm j)) ∈ preF ∨ Cond.not (Cond.eq (strTm j) (strTm i)) ∈ preF := by
  intro i hi j hj h
  by_cases h5 : i < 5
  · have := st_ne0 i h5 j hj (by omega)
    rwa [Nat.zero_add] at this
  · by_cases h10 : i < 10
    · have := st_ne5 (i - 5) (by omega) j hj (by omega)
      rwa [show 5 + (i - 5) = i by omega] at this
    · have := st_ne10 (i - 10) (by omega) j hj (by omega)
      rwa [show 10 + (i - 10) = i by omega] at this

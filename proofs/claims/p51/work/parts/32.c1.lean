-- ===== the start: written by wip/p51/mkmain.py =====
theorem st_ne5 : ∀ i, i < 5 → ∀ j, j < 15 → 5 + i ≠ j → Cond.not (Cond.eq (strTm (5 + i)) (strTm j)) ∈ preF ∨ Cond.not (Cond.eq (strTm j) (strTm (5 + i))) ∈ preF := by decide +kernel

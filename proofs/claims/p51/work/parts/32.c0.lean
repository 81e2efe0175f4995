-- ===== the start: written by wip/p51/mkmain.py =====
theorem st_ne0 : ∀ i, i < 5 → ∀ j, j < 15 → 0 + i ≠ j → Cond.not (Cond.eq (strTm (0 + i)) (strTm j)) ∈ preF ∨ Cond.not (Cond.eq (strTm j) (strTm (0 + i))) ∈ preF := by decide +kernel
